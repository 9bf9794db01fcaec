-- WP_shutting_0 Mo_shutting_42 Od_nearnessOf_11 Od_gather_39_6_11 WP_odd_0 Mo_nearOf_42 Mo_odd_42 WP_oddTalk_0 Mo_oddTalk_42 Ly_copyRooms_22_12 Ly_roomCount_22 Sk_seekRoomFor_21_10_1_5_18
set_option maxHeartbeats 4000000 in
set_option maxRecDepth 100000 in
theorem b_WP_shutting_0_0 {l : Launch} {G : GT} {N : Nat} {p : Program} {e : Env} {s : State} {m : MethodId} {args : Array Value} {below : List Frame} {meth : Method} {c : Code} (X : Cx G p s m args meth c cX10_shutting 2 RX10 (some .int)) {r : Int32} {υ : Hp} {τ : Hp} {v1 : Int32} {H : Heap} {locs : List Loc} {ls : Array Slot} (hH : Hs G τ s H locs) (hl : lv_has ls 2 [(0, .ref (aG G 0)), (1, .int v1)]) (hf : f_WP_shutting N 0 τ v1 = some (r, υ)) : WI l G (rmG 1 22) p e s m args below meth c r υ H locs (F0 m 0 ls []) := by
  have hx := X.hx
  have hb := X.hb
  unfold f_WP_shutting at hf
  refine lv_iload_n hx hb dX10_shutting_0 rfl (lv_at hl 1 rfl) ?_
  refine lv_iconst (v := 0) hx hb dX10_shutting_1 (by decide) ?_
  refine lv_aload_n hx hb dX10_shutting_2 rfl (lv_at hl 0 rfl) ?_
  refine g_get X hH (fa_0_7 G) tw_181 dX10_shutting_3 ?_
  refine g_getN X hH (fa_30_7 G) 51 rfl dX10_shutting_6 ?_
  refine lv_iconst (v := 1) hx hb dX10_shutting_9 (by decide) ?_
  refine lv_isub hx hb dX10_shutting_10 ?_
  obtain ⟨r1, τ2, hc3, hf⟩ := e_b hf
  refine c_Si X hH (n := 3) (As := [.int _, .int _, .int _]) (rest := []) (c_WP_isBetween l G (N := N) hc3) tw_198 tw_196 tw_197 tw_1 (by decide +kernel) ⟨by decide, by decide⟩ rfl hl.1 rfl (Nat.le_of_ble_eq_true rfl) ⟨Nat.zero_le _, Nat.zero_le _⟩ dX10_shutting_11 (fun H locs hH => ?_)
  refine lv_if_eq (tgt := 29) hx hb dX10_shutting_14 (by decide) (fun c4 => ?_) (fun c4 => ?_)
  · have hf := e_t c4 hf
    refine lv_iconst (v := (-1)) hx hb dX10_shutting_29 (by decide) ?_
    exact r_i X hH hf dX10_shutting_30
  · have hf := e_f c4 hf
    refine lv_aload_n hx hb dX10_shutting_17 rfl (lv_at hl 0 rfl) ?_
    refine g_get X hH (fa_0_7 G) tw_181 dX10_shutting_18 ?_
    refine g_getN X hH (fa_30_6 G) 50 rfl dX10_shutting_21 ?_
    refine lv_iload_n hx hb dX10_shutting_24 rfl (lv_at hl 1 rfl) ?_
    obtain ⟨g5, hf⟩ := e_g hf
    refine a_ld X hH (aa_38 G) g5 dX10_shutting_25 ?_
    refine lv_goto (tgt := 30) hx hb dX10_shutting_26 (by decide) ?_
    exact r_i X hH hf dX10_shutting_30
theorem c_WP_shutting_0 (l : Launch) (G : GT) {N : Nat} {τ υ : Hp} {v1 : Int32} {r : Int32} (hf : f_WP_shutting N 0 τ v1 = some (r, υ)) : MI l G yX10_shutting cX10_shutting 2 (some .int) 1 22 [.ref (aG G 0), .int v1] τ r υ := mk_I (by decide) (Nat.le_of_ble_eq_true rfl) (fun p e s m args below meth c X hH ls hl => b_WP_shutting_0_0 (N := N) X hH (lv_sub hl [0, 1] rfl) hf)
set_option maxHeartbeats 4000000 in
set_option maxRecDepth 100000 in
theorem b_Mo_shutting_42_0 {l : Launch} {G : GT} {N : Nat} {p : Program} {e : Env} {s : State} {m : MethodId} {args : Array Value} {below : List Frame} {meth : Method} {c : Code} (X : Cx G p s m args meth c cX11_shutting 2 RX11 (some .int)) {r : Int32} {υ : Hp} {τ : Hp} {v1 : Int32} {H : Heap} {locs : List Loc} {ls : Array Slot} (hH : Hs G τ s H locs) (hl : lv_has ls 2 [(0, .ref (aG G 42)), (1, .int v1)]) (hf : f_Mo_shutting N 42 τ v1 = some (r, υ)) : WI l G (rmG 0 0) p e s m args below meth c r υ H locs (F0 m 0 ls []) := by
  have hx := X.hx
  have hb := X.hb
  unfold f_Mo_shutting at hf
  refine lv_aload_n hx hb dX11_shutting_0 rfl (lv_at hl 0 rfl) ?_
  refine lv_iconst (v := 0) hx hb dX11_shutting_1 (by decide) ?_
  obtain ⟨τ1, eτ1, hf⟩ := e_l hf
  refine g_put X hH (fp_42_0 G) tw_526 rfl rfl dX11_shutting_2 (fun H locs hH => ?_)
  have hH : Hs G τ1 s H locs := by rw [eτ1]; exact hH
  refine lv_iload_n hx hb dX11_shutting_5 rfl (lv_at hl 1 rfl) ?_
  refine lv_if_lt (tgt := 17) hx hb dX11_shutting_6 (by decide) (fun c2 => ?_) (fun c2 => ?_)
  · have hf := e_t c2 hf
    refine lv_iconst (v := (-1)) hx hb dX11_shutting_17 (by decide) ?_
    refine lv_goto (tgt := 27) hx hb dX11_shutting_18 (by decide) ?_
    exact r_i X hH hf dX11_shutting_27
  · have hf := e_f c2 hf
    refine lv_iload_n hx hb dX11_shutting_9 rfl (lv_at hl 1 rfl) ?_
    refine lv_aload_n hx hb dX11_shutting_10 rfl (lv_at hl 0 rfl) ?_
    refine g_get X hH (fa_42_34 G) tw_560 dX11_shutting_11 ?_
    refine lv_icmp_lt (tgt := 21) hx hb dX11_shutting_14 (by decide) (fun c3 => ?_) (fun c3 => ?_)
    · have hf := e_t c3 hf
      refine lv_aload_n hx hb dX11_shutting_21 rfl (lv_at hl 0 rfl) ?_
      refine g_get X hH (fa_42_33 G) tw_559 dX11_shutting_22 ?_
      refine lv_iload_n hx hb dX11_shutting_25 rfl (lv_at hl 1 rfl) ?_
      obtain ⟨g4, hf⟩ := e_g hf
      refine a_ld X hH (aa_62 G) g4 dX11_shutting_26 ?_
      exact r_i X hH hf dX11_shutting_27
    · have hf := e_f c3 hf
      refine lv_iconst (v := (-1)) hx hb dX11_shutting_17 (by decide) ?_
      refine lv_goto (tgt := 27) hx hb dX11_shutting_18 (by decide) ?_
      exact r_i X hH hf dX11_shutting_27
theorem c_Mo_shutting_42 (l : Launch) (G : GT) {N : Nat} {τ υ : Hp} {v1 : Int32} {r : Int32} (hf : f_Mo_shutting N 42 τ v1 = some (r, υ)) : MI l G yX11_shutting cX11_shutting 2 (some .int) 0 0 [.ref (aG G 42), .int v1] τ r υ := mk_I (by decide) (Nat.le_of_ble_eq_true rfl) (fun p e s m args below meth c X hH ls hl => b_Mo_shutting_42_0 (N := N) X hH (lv_sub hl [0, 1] rfl) hf)
set_option maxHeartbeats 4000000 in
set_option maxRecDepth 100000 in
theorem b_Od_nearnessOf_11_35 {l : Launch} {G : GT} {N : Nat} {p : Program} {e : Env} {s : State} {m : MethodId} {args : Array Value} {below : List Frame} {meth : Method} {c : Code} (X : Cx G p s m args meth c cX5_nearnessOf 6 RX5 (some .int)) {r : Int32} {υ : Hp} {τ : Hp} {v0 v2 v3 w0 : Int32} {H : Heap} {locs : List Loc} {ls : Array Slot} (hH : Hs G τ s H locs) (hl : lv_has ls 6 [(0, .int v0), (1, .ref (aG G 11)), (2, .int v2), (3, .int v3)]) (hf : f_Od_nearnessOf_J35 N 11 τ v0 v2 v3 w0 = some (r, υ)) : WI l G (rmG 2 43) p e s m args below meth c r υ H locs (F0 m 35 ls [.int w0]) := by
  have hx := X.hx
  have hb := X.hb
  unfold f_Od_nearnessOf_J35 at hf
  refine lv_istore (lv' := [(4, .int w0), (0, .int v0), (1, .ref (aG G 11)), (2, .int v2), (3, .int v3)]) hx hb dX5_nearnessOf_35 hl (by decide) rfl (fun ls hl => ?_)
  refine lv_aload_n hx hb dX5_nearnessOf_37 rfl (lv_at hl 2 rfl) ?_
  refine lv_iload_n hx hb dX5_nearnessOf_38 rfl (lv_at hl 4 rfl) ?_
  refine lv_iload_n hx hb dX5_nearnessOf_39 rfl (lv_at hl 3 rfl) ?_
  obtain ⟨r1, τ2, hc3, hf⟩ := e_b hf
  refine c_Vi X hH (k := 11) (n := 2) (As := [.int _, .int _]) (rest := []) (c_Ly_doorsBetween_11 l G (N := N) hc3) (by decide) rfl rfl tw_412 tw_500 tw_410 tw_411 tw_6 (by decide +kernel) ⟨by decide, by decide⟩ rfl hl.1 rfl (Nat.le_of_ble_eq_true rfl) ⟨Nat.zero_le _, Nat.zero_le _⟩ dX5_nearnessOf_40 (fun H locs hH => ?_)
  refine lv_iload_n hx hb dX5_nearnessOf_43 rfl (lv_at hl 1 rfl) ?_
  obtain ⟨r4, τ5, hc6, hf⟩ := e_b hf
  refine c_SNi X hH (n := 1) (As := [.int _]) (rest := [.int _]) (c_WP_doorOf l G (N := N) hc6) tw_364 25 rfl tw_363 tw_1 (by decide +kernel) ⟨by decide, by decide⟩ rfl hl.1 rfl (Nat.le_of_ble_eq_true rfl) ⟨Nat.zero_le _, Nat.zero_le _⟩ dX5_nearnessOf_44 (fun H locs hH => ?_)
  obtain ⟨r7, τ8, hc9, hf⟩ := e_b hf
  refine c_SNi X hH (n := 2) (As := [.int _, .int _]) (rest := []) (c_WP_hasDoor l G (N := N) hc9) tw_237 26 rfl tw_236 tw_1 (by decide +kernel) ⟨by decide, by decide⟩ rfl hl.1 rfl (Nat.le_of_ble_eq_true rfl) ⟨Nat.zero_le _, Nat.zero_le _⟩ dX5_nearnessOf_47 (fun H locs hH => ?_)
  refine lv_if_eq (tgt := 57) hx hb dX5_nearnessOf_50 (by decide) (fun c10 => ?_) (fun c10 => ?_)
  · have hf := e_t c10 hf
    refine lv_iconst (v := 0) hx hb dX5_nearnessOf_57 (by decide) ?_
    refine lv_istore (lv' := [(5, .int 0), (4, .int w0), (0, .int v0), (1, .ref (aG G 11)), (2, .int v2), (3, .int v3)]) hx hb dX5_nearnessOf_58 hl (by decide) rfl (fun ls hl => ?_)
    refine lv_iload hx hb dX5_nearnessOf_60 (lv_at hl 1 rfl) ?_
    refine lv_iload hx hb dX5_nearnessOf_62 (lv_at hl 0 rfl) ?_
    refine lv_iadd hx hb dX5_nearnessOf_64 ?_
    exact r_i X hH hf dX5_nearnessOf_65
  · have hf := e_f c10 hf
    refine lv_iconst (v := 2) hx hb dX5_nearnessOf_53 (by decide) ?_
    refine lv_goto (tgt := 58) hx hb dX5_nearnessOf_54 (by decide) ?_
    refine lv_istore (lv' := [(5, .int 2), (4, .int w0), (0, .int v0), (1, .ref (aG G 11)), (2, .int v2), (3, .int v3)]) hx hb dX5_nearnessOf_58 hl (by decide) rfl (fun ls hl => ?_)
    refine lv_iload hx hb dX5_nearnessOf_60 (lv_at hl 1 rfl) ?_
    refine lv_iload hx hb dX5_nearnessOf_62 (lv_at hl 0 rfl) ?_
    refine lv_iadd hx hb dX5_nearnessOf_64 ?_
    exact r_i X hH hf dX5_nearnessOf_65
set_option maxHeartbeats 4000000 in
set_option maxRecDepth 100000 in
theorem b_Od_nearnessOf_11_0 {l : Launch} {G : GT} {N : Nat} {p : Program} {e : Env} {s : State} {m : MethodId} {args : Array Value} {below : List Frame} {meth : Method} {c : Code} (X : Cx G p s m args meth c cX5_nearnessOf 6 RX5 (some .int)) {r : Int32} {υ : Hp} {τ : Hp} {v0 : Int32} {H : Heap} {locs : List Loc} {ls : Array Slot} (hH : Hs G τ s H locs) (hl : lv_has ls 6 [(0, .int v0), (1, .ref (aG G 11))]) (hf : f_Od_nearnessOf N 11 τ v0 = some (r, υ)) : WI l G (rmG 2 43) p e s m args below meth c r υ H locs (F0 m 0 ls []) := by
  have hx := X.hx
  have hb := X.hb
  unfold f_Od_nearnessOf at hf
  refine lv_iload_n hx hb dX5_nearnessOf_0 rfl (lv_at hl 0 rfl) ?_
  obtain ⟨r1, τ2, hc3, hf⟩ := e_b hf
  refine c_SNi X hH (n := 1) (As := [.int _]) (rest := []) (c_WP_firstOf l G (N := N) hc3) tw_360 23 rfl tw_359 tw_1 (by decide +kernel) ⟨by decide, by decide⟩ rfl hl.1 rfl (Nat.le_of_ble_eq_true rfl) ⟨Nat.zero_le _, Nat.zero_le _⟩ dX5_nearnessOf_1 (fun H locs hH => ?_)
  refine lv_istore_n (lv' := [(2, .int r1), (0, .int v0), (1, .ref (aG G 11))]) hx hb dX5_nearnessOf_4 rfl hl (by decide) rfl (fun ls hl => ?_)
  refine lv_iload_n hx hb dX5_nearnessOf_5 rfl (lv_at hl 1 rfl) ?_
  obtain ⟨r4, τ5, hc6, hf⟩ := e_b hf
  refine c_SNi X hH (n := 1) (As := [.int _]) (rest := []) (c_WP_secondOf l G (N := N) hc6) tw_362 24 rfl tw_361 tw_1 (by decide +kernel) ⟨by decide, by decide⟩ rfl hl.1 rfl (Nat.le_of_ble_eq_true rfl) ⟨Nat.zero_le _, Nat.zero_le _⟩ dX5_nearnessOf_6 (fun H locs hH => ?_)
  refine lv_istore_n (lv' := [(3, .int r4), (2, .int r1), (0, .int v0), (1, .ref (aG G 11))]) hx hb dX5_nearnessOf_9 rfl hl (by decide) rfl (fun ls hl => ?_)
  refine lv_aload_n hx hb dX5_nearnessOf_10 rfl (lv_at hl 3 rfl) ?_
  refine lv_iload_n hx hb dX5_nearnessOf_11 rfl (lv_at hl 1 rfl) ?_
  refine lv_iload_n hx hb dX5_nearnessOf_12 rfl (lv_at hl 0 rfl) ?_
  obtain ⟨r7, τ8, hc9, hf⟩ := e_b hf
  refine c_Vi X hH (k := 11) (n := 2) (As := [.int _, .int _]) (rest := []) (c_Ly_areIn_11 l G (N := N) hc9) (by decide) rfl rfl tw_403 tw_499 tw_401 tw_402 tw_6 (by decide +kernel) ⟨by decide, by decide⟩ rfl hl.1 rfl (Nat.le_of_ble_eq_true rfl) ⟨Nat.zero_le _, Nat.zero_le _⟩ dX5_nearnessOf_13 (fun H locs hH => ?_)
  refine lv_if_ne (tgt := 21) hx hb dX5_nearnessOf_16 (by decide) (fun c10 => ?_) (fun c10 => ?_)
  · have hf := e_f c10 hf
    refine lv_aload_n hx hb dX5_nearnessOf_21 rfl (lv_at hl 3 rfl) ?_
    refine lv_iload_n hx hb dX5_nearnessOf_22 rfl (lv_at hl 1 rfl) ?_
    refine lv_iload_n hx hb dX5_nearnessOf_23 rfl (lv_at hl 0 rfl) ?_
    obtain ⟨r11, τ12, hc13, hf⟩ := e_b hf
    refine c_Vi X hH (k := 11) (n := 2) (As := [.int _, .int _]) (rest := []) (c_Ly_doorsBetween_11 l G (N := N) hc13) (by decide) rfl rfl tw_412 tw_500 tw_410 tw_411 tw_6 (by decide +kernel) ⟨by decide, by decide⟩ rfl hl.1 rfl (Nat.le_of_ble_eq_true rfl) ⟨Nat.zero_le _, Nat.zero_le _⟩ dX5_nearnessOf_24 (fun H locs hH => ?_)
    refine lv_if_eq (tgt := 34) hx hb dX5_nearnessOf_27 (by decide) (fun c14 => ?_) (fun c14 => ?_)
    · have hf := e_t c14 hf
      refine lv_iconst (v := 0) hx hb dX5_nearnessOf_34 (by decide) ?_
      exact b_Od_nearnessOf_11_35 (N := N) X hH (lv_sub hl [2, 3, 1, 0] rfl) hf
    · have hf := e_f c14 hf
      refine lv_iconst (v := 1) hx hb dX5_nearnessOf_30 (by decide) ?_
      refine lv_goto (tgt := 35) hx hb dX5_nearnessOf_31 (by decide) ?_
      exact b_Od_nearnessOf_11_35 (N := N) X hH (lv_sub hl [2, 3, 1, 0] rfl) hf
  · have hf := e_t c10 hf
    refine lv_iconst (v := 0) hx hb dX5_nearnessOf_19 (by decide) ?_
    exact r_i X hH hf dX5_nearnessOf_20
theorem c_Od_nearnessOf_11 (l : Launch) (G : GT) {N : Nat} {τ υ : Hp} {v0 : Int32} {r : Int32} (hf : f_Od_nearnessOf N 11 τ v0 = some (r, υ)) : MI l G yX5_nearnessOf cX5_nearnessOf 6 (some .int) 2 43 [.int v0, .ref (aG G 11)] τ r υ := mk_I (by decide) (Nat.le_of_ble_eq_true rfl) (fun p e s m args below meth c X hH ls hl => b_Od_nearnessOf_11_0 (N := N) X hH (lv_sub hl [0, 1] rfl) hf)
set_option maxHeartbeats 4000000 in
set_option maxRecDepth 100000 in
theorem b_Od_gather_39_6_11_8b {l : Launch} {G : GT} {N : Nat} {p : Program} {e : Env} {s : State} {m : MethodId} {args : Array Value} {below : List Frame} {meth : Method} {c : Code} (X : Cx G p s m args meth c cX5_gather 6 RX5 none) {r : Int32} {υ : Hp} {k8 : Hp → Int32 → Int32 → OR} (hk8 : ∀ (τ : Hp) (v3 v4 : Int32) (H : Heap) (locs : List Loc) (ls : Array Slot), Hs G τ s H locs → lv_has ls 6 [(0, .ref (aG G 39)), (1, .ref (aG G 6)), (2, .ref (aG G 11)), (3, .int v3), (4, .int v4)] → k8 τ v3 v4 = some (r, υ) → WV l G (rmG 3 68) p e s m args below meth c υ H locs (F0 m 8 ls [])) {τ : Hp} {v3 v4 : Int32} {H : Heap} {locs : List Loc} {ls : Array Slot} (hH : Hs G τ s H locs) (hl : lv_has ls 6 [(0, .ref (aG G 39)), (1, .ref (aG G 6)), (2, .ref (aG G 11)), (3, .int v3), (4, .int v4)]) (hf : f_Od_gather_L8b N 39 6 11 k8 τ v3 v4 = some (r, υ)) : WV l G (rmG 3 68) p e s m args below meth c υ H locs (F0 m 8 ls []) := by
  have hx := X.hx
  have hb := X.hb
  unfold f_Od_gather_L8b at hf
  refine lv_iload hx hb dX5_gather_8 (lv_at hl 4 rfl) ?_
  refine lv_aload_n hx hb dX5_gather_10 rfl (lv_at hl 1 rfl) ?_
  refine g_getN X hH (fa_6_3 G) 20 rfl dX5_gather_11 ?_
  refine lv_icmp_ge (tgt := 101) hx hb dX5_gather_14 (by decide) (fun c1 => ?_) (fun c1 => ?_)
  · have hf := e_t c1 hf
    exact r_v X hH hf dX5_gather_101
  · have hf := e_f c1 hf
    refine lv_aload_n hx hb dX5_gather_17 rfl (lv_at hl 1 rfl) ?_
    refine g_getN X hH (fa_6_0 G) 16 rfl dX5_gather_18 ?_
    refine lv_iload hx hb dX5_gather_21 (lv_at hl 4 rfl) ?_
    obtain ⟨g2, hf⟩ := e_g hf
    refine a_ld X hH (aa_7 G) g2 dX5_gather_23 ?_
    obtain ⟨x3, ex3, hf⟩ := e_l hf
    refine g_nm ex3 ?_
    refine lv_istore (lv' := [(5, .int x3), (0, .ref (aG G 39)), (1, .ref (aG G 6)), (2, .ref (aG G 11)), (3, .int v3), (4, .int v4)]) hx hb dX5_gather_24 hl (by decide) rfl (fun ls hl => ?_)
    refine lv_aload_n hx hb dX5_gather_26 rfl (lv_at hl 2 rfl) ?_
    refine g_getN X hH (fa_6_1 G) 18 rfl dX5_gather_27 ?_
    refine lv_iload hx hb dX5_gather_30 (lv_at hl 5 rfl) ?_
    obtain ⟨g4, hf⟩ := e_g hf
    refine a_ld X hH (aa_8 G) g4 dX5_gather_32 ?_
    refine lv_iload_n hx hb dX5_gather_33 rfl (lv_at hl 4 rfl) ?_
    refine lv_icmp_ne (tgt := 95) hx hb dX5_gather_34 (by decide) (fun c5 => ?_) (fun c5 => ?_)
    · have hf := e_f c5 hf
      obtain ⟨x6, ex6, hf⟩ := e_l hf
      refine lv_iinc (v := x6) (lv' := [(4, .int x6), (5, .int x3), (0, .ref (aG G 39)), (1, .ref (aG G 6)), (2, .ref (aG G 11)), (3, .int v3)]) hx hb dX5_gather_95 hl (k := 5) rfl (by rw [ex6]; rfl) (by decide) rfl (fun ls hl => ?_)
      refine lv_goto (tgt := 8) hx hb dX5_gather_98 (by decide) ?_
      exact hk8 _ _ _ _ _ _ hH (lv_sub hl [2, 3, 4, 5, 0] rfl) hf
    · have hf := e_t c5 hf
      refine lv_aload_n hx hb dX5_gather_37 rfl (lv_at hl 3 rfl) ?_
      refine lv_iload hx hb dX5_gather_38 (lv_at hl 0 rfl) ?_
      obtain ⟨r7, τ8, hc9, hf⟩ := e_b hf
      refine c_SNi X hH (n := 1) (As := [.int _]) (rest := [.ref (aG G 11)]) (c_WP_firstOf l G (N := N) hc9) tw_360 23 rfl tw_359 tw_1 (by decide +kernel) ⟨by decide, by decide⟩ rfl hl.1 rfl (Nat.le_of_ble_eq_true rfl) ⟨Nat.zero_le _, Nat.zero_le _⟩ dX5_gather_40 (fun H locs hH => ?_)
      refine lv_iload hx hb dX5_gather_43 (lv_at hl 0 rfl) ?_
      obtain ⟨r10, τ11, hc12, hf⟩ := e_b hf
      refine c_SNi X hH (n := 1) (As := [.int _]) (rest := [.int _, .ref (aG G 11)]) (c_WP_secondOf l G (N := N) hc12) tw_362 24 rfl tw_361 tw_1 (by decide +kernel) ⟨by decide, by decide⟩ rfl hl.1 rfl (Nat.le_of_ble_eq_true rfl) ⟨Nat.zero_le _, Nat.zero_le _⟩ dX5_gather_45 (fun H locs hH => ?_)
      refine lv_iload hx hb dX5_gather_48 (lv_at hl 0 rfl) ?_
      obtain ⟨r13, τ14, hc15, hf⟩ := e_b hf
      refine c_SNi X hH (n := 1) (As := [.int _]) (rest := [.int _, .int _, .ref (aG G 11)]) (c_WP_doorOf l G (N := N) hc15) tw_364 25 rfl tw_363 tw_1 (by decide +kernel) ⟨by decide, by decide⟩ rfl hl.1 rfl (Nat.le_of_ble_eq_true rfl) ⟨Nat.zero_le _, Nat.zero_le _⟩ dX5_gather_50 (fun H locs hH => ?_)
      obtain ⟨r16, τ17, hc18, hf⟩ := e_b hf
      refine c_Vi X hH (k := 11) (n := 3) (As := [.int _, .int _, .int _]) (rest := []) (c_Ly_isLet_11 l G (N := N) hc18) (by decide) rfl rfl tw_407 tw_495 tw_405 tw_406 tw_6 (by decide +kernel) ⟨by decide, by decide⟩ rfl hl.1 rfl (Nat.le_of_ble_eq_true rfl) ⟨Nat.zero_le _, Nat.zero_le _⟩ dX5_gather_53 (fun H locs hH => ?_)
      refine lv_if_ne (tgt := 95) hx hb dX5_gather_56 (by decide) (fun c19 => ?_) (fun c19 => ?_)
      · have hf := e_f c19 hf
        obtain ⟨x20, ex20, hf⟩ := e_l hf
        refine lv_iinc (v := x20) (lv' := [(4, .int x20), (5, .int x3), (0, .ref (aG G 39)), (1, .ref (aG G 6)), (2, .ref (aG G 11)), (3, .int v3)]) hx hb dX5_gather_95 hl (k := 5) rfl (by rw [ex20]; rfl) (by decide) rfl (fun ls hl => ?_)
        refine lv_goto (tgt := 8) hx hb dX5_gather_98 (by decide) ?_
        exact hk8 _ _ _ _ _ _ hH (lv_sub hl [2, 3, 4, 5, 0] rfl) hf
      · have hf := e_t c19 hf
        refine lv_aload_n hx hb dX5_gather_59 rfl (lv_at hl 1 rfl) ?_
        refine g_get X hH (fa_39_0 G) tw_168 dX5_gather_60 ?_
        refine lv_aload_n hx hb dX5_gather_63 rfl (lv_at hl 1 rfl) ?_
        refine g_get X hH (fa_39_2 G) tw_170 dX5_gather_64 ?_
        refine lv_iload hx hb dX5_gather_67 (lv_at hl 5 rfl) ?_
        obtain ⟨g21, hf⟩ := e_g hf
        obtain ⟨τ22, eτ22, hf⟩ := e_l hf
        refine a_st X hH (aa_40 G) g21 dX5_gather_69 (fun H locs hH => ?_)
        have hH : Hs G τ22 s H locs := by rw [eτ22]; exact hH
        refine lv_aload_n hx hb dX5_gather_70 rfl (lv_at hl 1 rfl) ?_
        refine g_get X hH (fa_39_1 G) tw_169 dX5_gather_71 ?_
        refine lv_aload_n hx hb dX5_gather_74 rfl (lv_at hl 1 rfl) ?_
        refine g_get X hH (fa_39_2 G) tw_170 dX5_gather_75 ?_
        refine lv_iload hx hb dX5_gather_78 (lv_at hl 0 rfl) ?_
        refine lv_aload_n hx hb dX5_gather_80 rfl (lv_at hl 3 rfl) ?_
        obtain ⟨r23, τ24, hc25, hf⟩ := e_b hf
        refine c_Si X hH (n := 2) (As := [.int _, .ref (aG G 11)]) (rest := [.int _, .ref (aG G 41)]) (c_Od_nearnessOf_11 l G (N := N) hc25) tw_498 tw_496 tw_497 tw_12 (by decide +kernel) ⟨by decide, by decide⟩ rfl hl.1 rfl (Nat.le_of_ble_eq_true rfl) ⟨Nat.zero_le _, Nat.zero_le _⟩ dX5_gather_81 (fun H locs hH => ?_)
        obtain ⟨g26, hf⟩ := e_g hf
        obtain ⟨τ27, eτ27, hf⟩ := e_l hf
        refine a_st X hH (aa_41 G) g26 dX5_gather_84 (fun H locs hH => ?_)
        have hH : Hs G τ27 s H locs := by rw [eτ27]; exact hH
        refine lv_aload_n hx hb dX5_gather_85 rfl (lv_at hl 1 rfl) ?_
        refine lv_dup hx hb dX5_gather_86 rfl ?_
        refine g_get X hH (fa_39_2 G) tw_170 dX5_gather_87 ?_
        refine lv_iconst (v := 1) hx hb dX5_gather_90 (by decide) ?_
        refine lv_iadd hx hb dX5_gather_91 ?_
        obtain ⟨τ28, eτ28, hf⟩ := e_l hf
        refine g_put X hH (fp_39_2 G) tw_170 rfl rfl dX5_gather_92 (fun H locs hH => ?_)
        have hH : Hs G τ28 s H locs := by rw [eτ28]; exact hH
        obtain ⟨x29, ex29, hf⟩ := e_l hf
        refine lv_iinc (v := x29) (lv' := [(4, .int x29), (5, .int x3), (0, .ref (aG G 39)), (1, .ref (aG G 6)), (2, .ref (aG G 11)), (3, .int v3)]) hx hb dX5_gather_95 hl (k := 5) rfl (by rw [ex29]; rfl) (by decide) rfl (fun ls hl => ?_)
        refine lv_goto (tgt := 8) hx hb dX5_gather_98 (by decide) ?_
        exact hk8 _ _ _ _ _ _ hH (lv_sub hl [2, 3, 4, 5, 0] rfl) hf
theorem b_Od_gather_39_6_11_8 {l : Launch} {G : GT} {N : Nat} {p : Program} {e : Env} {s : State} {m : MethodId} {args : Array Value} {below : List Frame} {meth : Method} {c : Code} (X : Cx G p s m args meth c cX5_gather 6 RX5 none) {r : Int32} {υ : Hp} : ∀ (n : Nat) (τ : Hp) (v3 v4 : Int32) (H : Heap) (locs : List Loc) (ls : Array Slot), Hs G τ s H locs → lv_has ls 6 [(0, .ref (aG G 39)), (1, .ref (aG G 6)), (2, .ref (aG G 11)), (3, .int v3), (4, .int v4)] → f_Od_gather_L8 N 39 6 11 n τ v3 v4 = some (r, υ) → WV l G (rmG 3 68) p e s m args below meth c υ H locs (F0 m 8 ls []) := by
  intro n
  induction n with
  | zero => intro τ v3 v4 H locs ls hH hl hf; exact nomatch (show (none : OR) = some (r, υ) from hf)
  | succ n ih => intro τ v3 v4 H locs ls hH hl hf; exact b_Od_gather_39_6_11_8b (N := N) X ih hH hl hf
set_option maxHeartbeats 4000000 in
set_option maxRecDepth 100000 in
theorem b_Od_gather_39_6_11_0 {l : Launch} {G : GT} {N : Nat} {p : Program} {e : Env} {s : State} {m : MethodId} {args : Array Value} {below : List Frame} {meth : Method} {c : Code} (X : Cx G p s m args meth c cX5_gather 6 RX5 none) {r : Int32} {υ : Hp} {τ : Hp} {v3 : Int32} {H : Heap} {locs : List Loc} {ls : Array Slot} (hH : Hs G τ s H locs) (hl : lv_has ls 6 [(0, .ref (aG G 39)), (1, .ref (aG G 6)), (2, .ref (aG G 11)), (3, .int v3)]) (hf : f_Od_gather N 39 6 11 τ v3 = some (r, υ)) : WV l G (rmG 3 68) p e s m args below meth c υ H locs (F0 m 0 ls []) := by
  have hx := X.hx
  have hb := X.hb
  unfold f_Od_gather at hf
  refine lv_aload_n hx hb dX5_gather_0 rfl (lv_at hl 0 rfl) ?_
  refine lv_iconst (v := 0) hx hb dX5_gather_1 (by decide) ?_
  obtain ⟨τ1, eτ1, hf⟩ := e_l hf
  refine g_put X hH (fp_39_2 G) tw_170 rfl rfl dX5_gather_2 (fun H locs hH => ?_)
  have hH : Hs G τ1 s H locs := by rw [eτ1]; exact hH
  refine lv_iconst (v := 0) hx hb dX5_gather_5 (by decide) ?_
  refine lv_istore (lv' := [(4, .int 0), (0, .ref (aG G 39)), (1, .ref (aG G 6)), (2, .ref (aG G 11)), (3, .int v3)]) hx hb dX5_gather_6 hl (by decide) rfl (fun ls hl => ?_)
  exact b_Od_gather_39_6_11_8 (N := N) X _ _ _ _ _ _ _ hH (lv_sub hl [1, 2, 3, 4, 0] rfl) hf
theorem c_Od_gather_39_6_11 (l : Launch) (G : GT) {N : Nat} {τ υ : Hp} {v3 : Int32} {r : Int32} (hf : f_Od_gather N 39 6 11 τ v3 = some (r, υ)) : MV l G yX5_gather cX5_gather 6 3 68 [.ref (aG G 39), .ref (aG G 6), .ref (aG G 11), .int v3] τ υ := mk_V (by decide) (Nat.le_of_ble_eq_true rfl) (fun p e s m args below meth c X hH ls hl => b_Od_gather_39_6_11_0 (N := N) X hH (lv_sub hl [0, 1, 2, 3] rfl) hf)
set_option maxHeartbeats 4000000 in
set_option maxRecDepth 100000 in
theorem b_WP_odd_0_0 {l : Launch} {G : GT} {N : Nat} {p : Program} {e : Env} {s : State} {m : MethodId} {args : Array Value} {below : List Frame} {meth : Method} {c : Code} (X : Cx G p s m args meth c cX10_odd 2 RX10 (some .int)) {r : Int32} {υ : Hp} {τ : Hp} {v1 : Int32} {H : Heap} {locs : List Loc} {ls : Array Slot} (hH : Hs G τ s H locs) (hl : lv_has ls 2 [(0, .ref (aG G 0)), (1, .int v1)]) (hf : f_WP_odd N 0 τ v1 = some (r, υ)) : WI l G (rmG 4 93) p e s m args below meth c r υ H locs (F0 m 0 ls []) := by
  have hx := X.hx
  have hb := X.hb
  unfold f_WP_odd at hf
  refine lv_aload_n hx hb dX10_odd_0 rfl (lv_at hl 0 rfl) ?_
  refine g_get X hH (fa_0_3 G) tw_177 dX10_odd_1 ?_
  refine g_getN X hH (fa_10_5 G) 47 rfl dX10_odd_4 ?_
  refine lv_if_eq (tgt := 17) hx hb dX10_odd_7 (by decide) (fun c1 => ?_) (fun c1 => ?_)
  · have hf := e_t c1 hf
    refine lv_iconst (v := (-1)) hx hb dX10_odd_17 (by decide) ?_
    exact r_i X hH hf dX10_odd_18
  · have hf := e_f c1 hf
    refine lv_iload_n hx hb dX10_odd_10 rfl (lv_at hl 1 rfl) ?_
    obtain ⟨r2, τ3, hc4, hf⟩ := e_b hf
    refine c_Si X hH (n := 1) (As := [.int _]) (rest := []) (c_WP_isDay l G (N := N) hc4) tw_217 tw_215 tw_216 tw_1 (by decide +kernel) ⟨by decide, by decide⟩ rfl hl.1 rfl (Nat.le_of_ble_eq_true rfl) ⟨Nat.zero_le _, Nat.zero_le _⟩ dX10_odd_11 (fun H locs hH => ?_)
    refine lv_if_ne (tgt := 19) hx hb dX10_odd_14 (by decide) (fun c5 => ?_) (fun c5 => ?_)
    · have hf := e_f c5 hf
      refine lv_aload_n hx hb dX10_odd_19 rfl (lv_at hl 0 rfl) ?_
      refine g_get X hH (fa_0_8 G) tw_182 dX10_odd_20 ?_
      refine lv_aload_n hx hb dX10_odd_23 rfl (lv_at hl 0 rfl) ?_
      refine g_get X hH (fa_0_2 G) tw_176 dX10_odd_24 ?_
      refine lv_aload_n hx hb dX10_odd_27 rfl (lv_at hl 0 rfl) ?_
      refine g_get X hH (fa_0_3 G) tw_177 dX10_odd_28 ?_
      refine g_getN X hH (fa_10_0 G) 39 rfl dX10_odd_31 ?_
      refine lv_iload_n hx hb dX10_odd_34 rfl (lv_at hl 1 rfl) ?_
      obtain ⟨r6, τ7, hc8, hf⟩ := e_b hf
      refine c_Vv X hH (k := 39) (n := 3) (As := [.ref (aG G 6), .ref (aG G 11), .int _]) (rest := []) (c_Od_gather_39_6_11 l G (N := N) hc8) (by decide) rfl rfl tw_494 tw_491 tw_492 tw_493 tw_12 (by decide +kernel) ⟨by decide, by decide⟩ rfl hl.1 rfl (Nat.le_of_ble_eq_true rfl) ⟨Nat.zero_le _, Nat.zero_le _⟩ dX10_odd_35 (fun H locs hH => ?_)
      refine lv_aload_n hx hb dX10_odd_38 rfl (lv_at hl 0 rfl) ?_
      refine g_get X hH (fa_0_8 G) tw_182 dX10_odd_39 ?_
      refine g_getN X hH (fa_39_2 G) 54 rfl dX10_odd_42 ?_
      exact r_i X hH hf dX10_odd_45
    · have hf := e_t c5 hf
      refine lv_iconst (v := (-1)) hx hb dX10_odd_17 (by decide) ?_
      exact r_i X hH hf dX10_odd_18
theorem c_WP_odd_0 (l : Launch) (G : GT) {N : Nat} {τ υ : Hp} {v1 : Int32} {r : Int32} (hf : f_WP_odd N 0 τ v1 = some (r, υ)) : MI l G yX10_odd cX10_odd 2 (some .int) 4 93 [.ref (aG G 0), .int v1] τ r υ := mk_I (by decide) (Nat.le_of_ble_eq_true rfl) (fun p e s m args below meth c X hH ls hl => b_WP_odd_0_0 (N := N) X hH (lv_sub hl [0, 1] rfl) hf)
set_option maxHeartbeats 4000000 in
set_option maxRecDepth 100000 in
theorem b_Mo_nearOf_42_28b {l : Launch} {G : GT} {N : Nat} {p : Program} {e : Env} {s : State} {m : MethodId} {args : Array Value} {below : List Frame} {meth : Method} {c : Code} (X : Cx G p s m args meth c cX11_nearOf 6 RX11 (some .int)) {r : Int32} {υ : Hp} {k28 : Hp → Int32 → Int32 → Int32 → Int32 → Int32 → OR} (hk28 : ∀ (τ : Hp) (v1 v2 v3 v4 v5 : Int32) (H : Heap) (locs : List Loc) (ls : Array Slot), Hs G τ s H locs → lv_has ls 6 [(0, .ref (aG G 42)), (1, .int v1), (2, .int v2), (3, .int v3), (4, .int v4), (5, .int v5)] → k28 τ v1 v2 v3 v4 v5 = some (r, υ) → WI l G (rmG 0 0) p e s m args below meth c r υ H locs (F0 m 28 ls [])) {τ : Hp} {v1 v2 v3 v4 v5 : Int32} {H : Heap} {locs : List Loc} {ls : Array Slot} (hH : Hs G τ s H locs) (hl : lv_has ls 6 [(0, .ref (aG G 42)), (1, .int v1), (2, .int v2), (3, .int v3), (4, .int v4), (5, .int v5)]) (hf : f_Mo_nearOf_L28b N 42 k28 τ v1 v2 v3 v4 v5 = some (r, υ)) : WI l G (rmG 0 0) p e s m args below meth c r υ H locs (F0 m 28 ls []) := by
  have hx := X.hx
  have hb := X.hb
  unfold f_Mo_nearOf_L28b at hf
  refine lv_iload hx hb dX11_nearOf_28 (lv_at hl 5 rfl) ?_
  refine lv_iconst (v := 4) hx hb dX11_nearOf_30 (by decide) ?_
  refine lv_icmp_ge (tgt := 70) hx hb dX11_nearOf_31 (by decide) (fun c1 => ?_) (fun c1 => ?_)
  · have hf := e_t c1 hf
    refine lv_iload hx hb dX11_nearOf_70 (lv_at hl 4 rfl) ?_
    refine lv_aload_n hx hb dX11_nearOf_72 rfl (lv_at hl 0 rfl) ?_
    refine g_get X hH (fa_42_25 G) tw_551 dX11_nearOf_73 ?_
    refine lv_bipush (v := 32) hx hb dX11_nearOf_76 (by decide) ?_
    refine lv_iload_n hx hb dX11_nearOf_78 rfl (lv_at hl 3 rfl) ?_
    refine lv_imul hx hb dX11_nearOf_79 ?_
    refine lv_iconst (v := 4) hx hb dX11_nearOf_80 (by decide) ?_
    refine lv_iload_n hx hb dX11_nearOf_81 rfl (lv_at hl 2 rfl) ?_
    refine lv_imul hx hb dX11_nearOf_82 ?_
    refine lv_iadd hx hb dX11_nearOf_83 ?_
    refine lv_iload_n hx hb dX11_nearOf_84 rfl (lv_at hl 1 rfl) ?_
    refine lv_iconst (v := 4) hx hb dX11_nearOf_85 (by decide) ?_
    refine lv_irem hx hb dX11_nearOf_86 (by decide) ?_
    refine lv_iadd hx hb dX11_nearOf_87 ?_
    obtain ⟨g2, hf⟩ := e_g hf
    refine z_ld X hH (aa_57 G) g2 dX11_nearOf_88 ?_
    refine lv_if_eq (tgt := 96) hx hb dX11_nearOf_89 (by decide) (fun c3 => ?_) (fun c3 => ?_)
    · have hf := e_t c3 hf
      refine lv_iconst (v := 0) hx hb dX11_nearOf_96 (by decide) ?_
      refine lv_iadd hx hb dX11_nearOf_97 ?_
      exact r_i X hH hf dX11_nearOf_98
    · have hf := e_f c3 hf
      refine lv_iconst (v := 2) hx hb dX11_nearOf_92 (by decide) ?_
      refine lv_goto (tgt := 97) hx hb dX11_nearOf_93 (by decide) ?_
      refine lv_iadd hx hb dX11_nearOf_97 ?_
      exact r_i X hH hf dX11_nearOf_98
  · have hf := e_f c1 hf
    refine lv_iload hx hb dX11_nearOf_34 (lv_at hl 5 rfl) ?_
    refine lv_iload_n hx hb dX11_nearOf_36 rfl (lv_at hl 1 rfl) ?_
    refine lv_iconst (v := 4) hx hb dX11_nearOf_37 (by decide) ?_
    refine lv_irem hx hb dX11_nearOf_38 (by decide) ?_
    refine lv_icmp_eq (tgt := 64) hx hb dX11_nearOf_39 (by decide) (fun c4 => ?_) (fun c4 => ?_)
    · have hf := e_t c4 hf
      obtain ⟨x5, ex5, hf⟩ := e_l hf
      refine lv_iinc (v := x5) (lv' := [(5, .int x5), (0, .ref (aG G 42)), (1, .int v1), (2, .int v2), (3, .int v3), (4, .int v4)]) hx hb dX11_nearOf_64 hl (k := 5) rfl (by rw [ex5]; rfl) (by decide) rfl (fun ls hl => ?_)
      refine lv_goto (tgt := 28) hx hb dX11_nearOf_67 (by decide) ?_
      exact hk28 _ _ _ _ _ _ _ _ _ hH (lv_sub hl [1, 2, 3, 4, 5, 0] rfl) hf
    · have hf := e_f c4 hf
      refine lv_aload_n hx hb dX11_nearOf_42 rfl (lv_at hl 0 rfl) ?_
      refine g_get X hH (fa_42_25 G) tw_551 dX11_nearOf_43 ?_
      refine lv_bipush (v := 32) hx hb dX11_nearOf_46 (by decide) ?_
      refine lv_iload_n hx hb dX11_nearOf_48 rfl (lv_at hl 2 rfl) ?_
      refine lv_imul hx hb dX11_nearOf_49 ?_
      refine lv_iconst (v := 4) hx hb dX11_nearOf_50 (by decide) ?_
      refine lv_iload_n hx hb dX11_nearOf_51 rfl (lv_at hl 3 rfl) ?_
      refine lv_imul hx hb dX11_nearOf_52 ?_
      refine lv_iadd hx hb dX11_nearOf_53 ?_
      refine lv_iload hx hb dX11_nearOf_54 (lv_at hl 5 rfl) ?_
      refine lv_iadd hx hb dX11_nearOf_56 ?_
      obtain ⟨g6, hf⟩ := e_g hf
      refine z_ld X hH (aa_57 G) g6 dX11_nearOf_57 ?_
      refine lv_if_eq (tgt := 64) hx hb dX11_nearOf_58 (by decide) (fun c7 => ?_) (fun c7 => ?_)
      · have hf := e_t c7 hf
        obtain ⟨x8, ex8, hf⟩ := e_l hf
        refine lv_iinc (v := x8) (lv' := [(5, .int x8), (0, .ref (aG G 42)), (1, .int v1), (2, .int v2), (3, .int v3), (4, .int v4)]) hx hb dX11_nearOf_64 hl (k := 5) rfl (by rw [ex8]; rfl) (by decide) rfl (fun ls hl => ?_)
        refine lv_goto (tgt := 28) hx hb dX11_nearOf_67 (by decide) ?_
        exact hk28 _ _ _ _ _ _ _ _ _ hH (lv_sub hl [1, 2, 3, 4, 5, 0] rfl) hf
      · have hf := e_f c7 hf
        refine lv_iconst (v := 1) hx hb dX11_nearOf_61 (by decide) ?_
        refine lv_istore (lv' := [(4, .int 1), (0, .ref (aG G 42)), (1, .int v1), (2, .int v2), (3, .int v3), (5, .int v5)]) hx hb dX11_nearOf_62 hl (by decide) rfl (fun ls hl => ?_)
        obtain ⟨x9, ex9, hf⟩ := e_l hf
        refine lv_iinc (v := x9) (lv' := [(5, .int x9), (4, .int 1), (0, .ref (aG G 42)), (1, .int v1), (2, .int v2), (3, .int v3)]) hx hb dX11_nearOf_64 hl (k := 5) rfl (by rw [ex9]; rfl) (by decide) rfl (fun ls hl => ?_)
        refine lv_goto (tgt := 28) hx hb dX11_nearOf_67 (by decide) ?_
        exact hk28 _ _ _ _ _ _ _ _ _ hH (lv_sub hl [2, 3, 4, 5, 1, 0] rfl) hf
theorem b_Mo_nearOf_42_28 {l : Launch} {G : GT} {N : Nat} {p : Program} {e : Env} {s : State} {m : MethodId} {args : Array Value} {below : List Frame} {meth : Method} {c : Code} (X : Cx G p s m args meth c cX11_nearOf 6 RX11 (some .int)) {r : Int32} {υ : Hp} : ∀ (n : Nat) (τ : Hp) (v1 v2 v3 v4 v5 : Int32) (H : Heap) (locs : List Loc) (ls : Array Slot), Hs G τ s H locs → lv_has ls 6 [(0, .ref (aG G 42)), (1, .int v1), (2, .int v2), (3, .int v3), (4, .int v4), (5, .int v5)] → f_Mo_nearOf_L28 N 42 n τ v1 v2 v3 v4 v5 = some (r, υ) → WI l G (rmG 0 0) p e s m args below meth c r υ H locs (F0 m 28 ls []) := by
  intro n
  induction n with
  | zero => intro τ v1 v2 v3 v4 v5 H locs ls hH hl hf; exact nomatch (show (none : OR) = some (r, υ) from hf)
  | succ n ih => intro τ v1 v2 v3 v4 v5 H locs ls hH hl hf; exact b_Mo_nearOf_42_28b (N := N) X ih hH hl hf
set_option maxHeartbeats 4000000 in
set_option maxRecDepth 100000 in
theorem b_Mo_nearOf_42_0 {l : Launch} {G : GT} {N : Nat} {p : Program} {e : Env} {s : State} {m : MethodId} {args : Array Value} {below : List Frame} {meth : Method} {c : Code} (X : Cx G p s m args meth c cX11_nearOf 6 RX11 (some .int)) {r : Int32} {υ : Hp} {τ : Hp} {v1 : Int32} {H : Heap} {locs : List Loc} {ls : Array Slot} (hH : Hs G τ s H locs) (hl : lv_has ls 6 [(0, .ref (aG G 42)), (1, .int v1)]) (hf : f_Mo_nearOf N 42 τ v1 = some (r, υ)) : WI l G (rmG 0 0) p e s m args below meth c r υ H locs (F0 m 0 ls []) := by
  have hx := X.hx
  have hb := X.hb
  unfold f_Mo_nearOf at hf
  refine lv_aload_n hx hb dX11_nearOf_0 rfl (lv_at hl 0 rfl) ?_
  refine g_get X hH (fa_42_3 G) tw_529 dX11_nearOf_1 ?_
  refine lv_iload_n hx hb dX11_nearOf_4 rfl (lv_at hl 1 rfl) ?_
  refine lv_bipush (v := 32) hx hb dX11_nearOf_5 (by decide) ?_
  refine lv_idiv hx hb dX11_nearOf_7 (by decide) ?_
  obtain ⟨g1, hf⟩ := e_g hf
  refine a_ld X hH (aa_44 G) g1 dX11_nearOf_8 ?_
  obtain ⟨x2, ex2, hf⟩ := e_l hf
  refine g_nm ex2 ?_
  refine lv_istore_n (lv' := [(2, .int x2), (0, .ref (aG G 42)), (1, .int v1)]) hx hb dX11_nearOf_9 rfl hl (by decide) rfl (fun ls hl => ?_)
  refine lv_aload_n hx hb dX11_nearOf_10 rfl (lv_at hl 1 rfl) ?_
  refine g_get X hH (fa_42_3 G) tw_529 dX11_nearOf_11 ?_
  refine lv_iload_n hx hb dX11_nearOf_14 rfl (lv_at hl 2 rfl) ?_
  refine lv_iconst (v := 4) hx hb dX11_nearOf_15 (by decide) ?_
  refine lv_idiv hx hb dX11_nearOf_16 (by decide) ?_
  refine lv_bipush (v := 8) hx hb dX11_nearOf_17 (by decide) ?_
  refine lv_irem hx hb dX11_nearOf_19 (by decide) ?_
  obtain ⟨g3, hf⟩ := e_g hf
  refine a_ld X hH (aa_44 G) g3 dX11_nearOf_20 ?_
  obtain ⟨x4, ex4, hf⟩ := e_l hf
  refine g_nm ex4 ?_
  refine lv_istore_n (lv' := [(3, .int x4), (2, .int x2), (0, .ref (aG G 42)), (1, .int v1)]) hx hb dX11_nearOf_21 rfl hl (by decide) rfl (fun ls hl => ?_)
  refine lv_iconst (v := 0) hx hb dX11_nearOf_22 (by decide) ?_
  refine lv_istore (lv' := [(4, .int 0), (3, .int x4), (2, .int x2), (0, .ref (aG G 42)), (1, .int v1)]) hx hb dX11_nearOf_23 hl (by decide) rfl (fun ls hl => ?_)
  refine lv_iconst (v := 0) hx hb dX11_nearOf_25 (by decide) ?_
  refine lv_istore (lv' := [(5, .int 0), (4, .int 0), (3, .int x4), (2, .int x2), (0, .ref (aG G 42)), (1, .int v1)]) hx hb dX11_nearOf_26 hl (by decide) rfl (fun ls hl => ?_)
  exact b_Mo_nearOf_42_28 (N := N) X _ _ _ _ _ _ _ _ _ _ hH (lv_sub hl [4, 5, 3, 2, 1, 0] rfl) hf
theorem c_Mo_nearOf_42 (l : Launch) (G : GT) {N : Nat} {τ υ : Hp} {v1 : Int32} {r : Int32} (hf : f_Mo_nearOf N 42 τ v1 = some (r, υ)) : MI l G yX11_nearOf cX11_nearOf 6 (some .int) 0 0 [.ref (aG G 42), .int v1] τ r υ := mk_I (by decide) (Nat.le_of_ble_eq_true rfl) (fun p e s m args below meth c X hH ls hl => b_Mo_nearOf_42_0 (N := N) X hH (lv_sub hl [0, 1] rfl) hf)
set_option maxHeartbeats 4000000 in
set_option maxRecDepth 100000 in
theorem b_Mo_odd_42_107 {l : Launch} {G : GT} {N : Nat} {p : Program} {e : Env} {s : State} {m : MethodId} {args : Array Value} {below : List Frame} {meth : Method} {c : Code} (X : Cx G p s m args meth c cX11_odd 5 RX11 (some .int)) {r : Int32} {υ : Hp} {k28 : Hp → Int32 → Int32 → OR} (hk28 : ∀ (τ : Hp) (v1 v2 : Int32) (H : Heap) (locs : List Loc) (ls : Array Slot), Hs G τ s H locs → lv_has ls 5 [(0, .ref (aG G 42)), (1, .int v1), (2, .int v2)] → k28 τ v1 v2 = some (r, υ) → WI l G (rmG 1 25) p e s m args below meth c r υ H locs (F0 m 28 ls [])) {τ : Hp} {v1 v2 v3 v4 : Int32} {H : Heap} {locs : List Loc} {ls : Array Slot} (hH : Hs G τ s H locs) (hl : lv_has ls 5 [(0, .ref (aG G 42)), (1, .int v1), (2, .int v2), (3, .int v3), (4, .int v4)]) (hf : f_Mo_odd_J107 N 42 k28 τ v1 v2 v3 v4 = some (r, υ)) : WI l G (rmG 1 25) p e s m args below meth c r υ H locs (F0 m 107 ls []) := by
  have hx := X.hx
  have hb := X.hb
  unfold f_Mo_odd_J107 at hf
  refine lv_aload_n hx hb dX11_odd_107 rfl (lv_at hl 0 rfl) ?_
  refine g_get X hH (fa_42_35 G) tw_561 dX11_odd_108 ?_
  refine lv_aload_n hx hb dX11_odd_111 rfl (lv_at hl 0 rfl) ?_
  refine g_get X hH (fa_42_38 G) tw_564 dX11_odd_112 ?_
  refine lv_iload_n hx hb dX11_odd_115 rfl (lv_at hl 3 rfl) ?_
  obtain ⟨g1, hf⟩ := e_g hf
  obtain ⟨τ2, eτ2, hf⟩ := e_l hf
  refine a_st X hH (aa_63 G) g1 dX11_odd_116 (fun H locs hH => ?_)
  have hH : Hs G τ2 s H locs := by rw [eτ2]; exact hH
  refine lv_aload_n hx hb dX11_odd_117 rfl (lv_at hl 0 rfl) ?_
  refine g_get X hH (fa_42_36 G) tw_562 dX11_odd_118 ?_
  refine lv_aload_n hx hb dX11_odd_121 rfl (lv_at hl 0 rfl) ?_
  refine g_get X hH (fa_42_38 G) tw_564 dX11_odd_122 ?_
  refine lv_aload_n hx hb dX11_odd_125 rfl (lv_at hl 0 rfl) ?_
  refine g_get X hH (fa_42_7 G) tw_533 dX11_odd_126 ?_
  refine lv_iload_n hx hb dX11_odd_129 rfl (lv_at hl 2 rfl) ?_
  obtain ⟨g3, hf⟩ := e_g hf
  refine a_ld X hH (aa_47 G) g3 dX11_odd_130 ?_
  obtain ⟨g4, hf⟩ := e_g hf
  obtain ⟨τ5, eτ5, hf⟩ := e_l hf
  refine a_st X hH (aa_64 G) g4 dX11_odd_131 (fun H locs hH => ?_)
  have hH : Hs G τ5 s H locs := by rw [eτ5]; exact hH
  refine lv_aload_n hx hb dX11_odd_132 rfl (lv_at hl 0 rfl) ?_
  refine g_get X hH (fa_42_37 G) tw_563 dX11_odd_133 ?_
  refine lv_aload_n hx hb dX11_odd_136 rfl (lv_at hl 0 rfl) ?_
  refine g_get X hH (fa_42_38 G) tw_564 dX11_odd_137 ?_
  refine lv_iload hx hb dX11_odd_140 (lv_at hl 4 rfl) ?_
  refine lv_if_eq (tgt := 153) hx hb dX11_odd_142 (by decide) (fun c6 => ?_) (fun c6 => ?_)
  · have hf := e_t c6 hf
    refine lv_iconst (v := 0) hx hb dX11_odd_153 (by decide) ?_
    obtain ⟨g7, hf⟩ := e_g hf
    obtain ⟨τ8, eτ8, hf⟩ := e_l hf
    refine a_st X hH (aa_65 G) g7 dX11_odd_154 (fun H locs hH => ?_)
    have hH : Hs G τ8 s H locs := by rw [eτ8]; exact hH
    refine lv_aload_n hx hb dX11_odd_155 rfl (lv_at hl 0 rfl) ?_
    refine lv_dup hx hb dX11_odd_156 rfl ?_
    refine g_get X hH (fa_42_38 G) tw_564 dX11_odd_157 ?_
    refine lv_iconst (v := 1) hx hb dX11_odd_160 (by decide) ?_
    refine lv_iadd hx hb dX11_odd_161 ?_
    obtain ⟨τ9, eτ9, hf⟩ := e_l hf
    refine g_put X hH (fp_42_38 G) tw_564 rfl rfl dX11_odd_162 (fun H locs hH => ?_)
    have hH : Hs G τ9 s H locs := by rw [eτ9]; exact hH
    obtain ⟨x10, ex10, hf⟩ := e_l hf
    refine lv_iinc (v := x10) (lv' := [(2, .int x10), (0, .ref (aG G 42)), (1, .int v1), (3, .int v3), (4, .int v4)]) hx hb dX11_odd_165 hl (k := 2) rfl (by rw [ex10]; rfl) (by decide) rfl (fun ls hl => ?_)
    refine lv_goto (tgt := 28) hx hb dX11_odd_168 (by decide) ?_
    exact hk28 _ _ _ _ _ _ hH (lv_sub hl [1, 2, 0] rfl) hf
  · have hf := e_f c6 hf
    refine lv_aload_n hx hb dX11_odd_145 rfl (lv_at hl 0 rfl) ?_
    refine lv_iload_n hx hb dX11_odd_146 rfl (lv_at hl 3 rfl) ?_
    obtain ⟨r11, τ12, hc13, hf⟩ := e_b hf
    refine c_Vi X hH (k := 42) (n := 1) (As := [.int _]) (rest := [.int _, .ref (aG G 65)]) (c_Mo_nearOf_42 l G (N := N) hc13) (by decide) rfl rfl tw_733 tw_731 tw_732 tw_787 tw_13 (by decide +kernel) ⟨by decide, by decide⟩ rfl hl.1 rfl (Nat.le_of_ble_eq_true rfl) ⟨Nat.zero_le _, Nat.zero_le _⟩ dX11_odd_147 (fun H locs hH => ?_)
    refine lv_goto (tgt := 154) hx hb dX11_odd_150 (by decide) ?_
    obtain ⟨g14, hf⟩ := e_g hf
    obtain ⟨τ15, eτ15, hf⟩ := e_l hf
    refine a_st X hH (aa_65 G) g14 dX11_odd_154 (fun H locs hH => ?_)
    have hH : Hs G τ15 s H locs := by rw [eτ15]; exact hH
    refine lv_aload_n hx hb dX11_odd_155 rfl (lv_at hl 0 rfl) ?_
    refine lv_dup hx hb dX11_odd_156 rfl ?_
    refine g_get X hH (fa_42_38 G) tw_564 dX11_odd_157 ?_
    refine lv_iconst (v := 1) hx hb dX11_odd_160 (by decide) ?_
    refine lv_iadd hx hb dX11_odd_161 ?_
    obtain ⟨τ16, eτ16, hf⟩ := e_l hf
    refine g_put X hH (fp_42_38 G) tw_564 rfl rfl dX11_odd_162 (fun H locs hH => ?_)
    have hH : Hs G τ16 s H locs := by rw [eτ16]; exact hH
    obtain ⟨x17, ex17, hf⟩ := e_l hf
    refine lv_iinc (v := x17) (lv' := [(2, .int x17), (0, .ref (aG G 42)), (1, .int v1), (3, .int v3), (4, .int v4)]) hx hb dX11_odd_165 hl (k := 2) rfl (by rw [ex17]; rfl) (by decide) rfl (fun ls hl => ?_)
    refine lv_goto (tgt := 28) hx hb dX11_odd_168 (by decide) ?_
    exact hk28 _ _ _ _ _ _ hH (lv_sub hl [1, 2, 0] rfl) hf
set_option maxHeartbeats 4000000 in
set_option maxRecDepth 100000 in
theorem b_Mo_odd_42_89 {l : Launch} {G : GT} {N : Nat} {p : Program} {e : Env} {s : State} {m : MethodId} {args : Array Value} {below : List Frame} {meth : Method} {c : Code} (X : Cx G p s m args meth c cX11_odd 5 RX11 (some .int)) {r : Int32} {υ : Hp} {k28 : Hp → Int32 → Int32 → OR} (hk28 : ∀ (τ : Hp) (v1 v2 : Int32) (H : Heap) (locs : List Loc) (ls : Array Slot), Hs G τ s H locs → lv_has ls 5 [(0, .ref (aG G 42)), (1, .int v1), (2, .int v2)] → k28 τ v1 v2 = some (r, υ) → WI l G (rmG 1 25) p e s m args below meth c r υ H locs (F0 m 28 ls [])) {τ : Hp} {v1 v2 v3 w0 : Int32} {H : Heap} {locs : List Loc} {ls : Array Slot} (hH : Hs G τ s H locs) (hl : lv_has ls 5 [(0, .ref (aG G 42)), (1, .int v1), (2, .int v2), (3, .int v3)]) (hf : f_Mo_odd_J89 N 42 k28 τ v1 v2 v3 w0 = some (r, υ)) : WI l G (rmG 1 25) p e s m args below meth c r υ H locs (F0 m 89 ls [.int w0]) := by
  have hx := X.hx
  have hb := X.hb
  unfold f_Mo_odd_J89 at hf
  refine lv_istore (lv' := [(4, .int w0), (0, .ref (aG G 42)), (1, .int v1), (2, .int v2), (3, .int v3)]) hx hb dX11_odd_89 hl (by decide) rfl (fun ls hl => ?_)
  refine lv_iload hx hb dX11_odd_91 (lv_at hl 0 rfl) ?_
  refine lv_if_eq (tgt := 107) hx hb dX11_odd_93 (by decide) (fun c1 => ?_) (fun c1 => ?_)
  · have hf := e_t c1 hf
    exact b_Mo_odd_42_107 (N := N) X hk28 hH (lv_sub hl [1, 2, 3, 4, 0] rfl) hf
  · have hf := e_f c1 hf
    refine lv_aload_n hx hb dX11_odd_96 rfl (lv_at hl 1 rfl) ?_
    refine lv_iload_n hx hb dX11_odd_97 rfl (lv_at hl 4 rfl) ?_
    obtain ⟨r2, τ3, hc4, hf⟩ := e_b hf
    refine c_Vi X hH (k := 42) (n := 1) (As := [.int _]) (rest := []) (c_Mo_letsBy_42 l G (N := N) hc4) (by decide) rfl rfl tw_701 tw_699 tw_700 tw_783 tw_13 (by decide +kernel) ⟨by decide, by decide⟩ rfl hl.1 rfl (Nat.le_of_ble_eq_true rfl) ⟨Nat.zero_le _, Nat.zero_le _⟩ dX11_odd_98 (fun H locs hH => ?_)
    refine lv_if_le (tgt := 107) hx hb dX11_odd_101 (by decide) (fun c5 => ?_) (fun c5 => ?_)
    · have hf := e_t c5 hf
      exact b_Mo_odd_42_107 (N := N) X hk28 hH (lv_sub hl [1, 2, 3, 4, 0] rfl) hf
    · have hf := e_f c5 hf
      refine lv_goto (tgt := 165) hx hb dX11_odd_104 (by decide) ?_
      obtain ⟨x6, ex6, hf⟩ := e_l hf
      refine lv_iinc (v := x6) (lv' := [(2, .int x6), (4, .int w0), (0, .ref (aG G 42)), (1, .int v1), (3, .int v3)]) hx hb dX11_odd_165 hl (k := 3) rfl (by rw [ex6]; rfl) (by decide) rfl (fun ls hl => ?_)
      refine lv_goto (tgt := 28) hx hb dX11_odd_168 (by decide) ?_
      exact hk28 _ _ _ _ _ _ hH (lv_sub hl [2, 3, 0] rfl) hf
set_option maxHeartbeats 4000000 in
set_option maxRecDepth 100000 in
theorem b_Mo_odd_42_88 {l : Launch} {G : GT} {N : Nat} {p : Program} {e : Env} {s : State} {m : MethodId} {args : Array Value} {below : List Frame} {meth : Method} {c : Code} (X : Cx G p s m args meth c cX11_odd 5 RX11 (some .int)) {r : Int32} {υ : Hp} {k28 : Hp → Int32 → Int32 → OR} (hk28 : ∀ (τ : Hp) (v1 v2 : Int32) (H : Heap) (locs : List Loc) (ls : Array Slot), Hs G τ s H locs → lv_has ls 5 [(0, .ref (aG G 42)), (1, .int v1), (2, .int v2)] → k28 τ v1 v2 = some (r, υ) → WI l G (rmG 1 25) p e s m args below meth c r υ H locs (F0 m 28 ls [])) {τ : Hp} {v1 v2 v3 : Int32} {H : Heap} {locs : List Loc} {ls : Array Slot} (hH : Hs G τ s H locs) (hl : lv_has ls 5 [(0, .ref (aG G 42)), (1, .int v1), (2, .int v2), (3, .int v3)]) (hf : f_Mo_odd_J88 N 42 k28 τ v1 v2 v3 = some (r, υ)) : WI l G (rmG 1 25) p e s m args below meth c r υ H locs (F0 m 88 ls []) := by
  have hx := X.hx
  have hb := X.hb
  unfold f_Mo_odd_J88 at hf
  refine lv_iconst (v := 0) hx hb dX11_odd_88 (by decide) ?_
  exact b_Mo_odd_42_89 (N := N) X hk28 hH (lv_sub hl [0, 1, 2, 3] rfl) hf
set_option maxHeartbeats 4000000 in
set_option maxRecDepth 100000 in
theorem b_Mo_odd_42_28b {l : Launch} {G : GT} {N : Nat} {p : Program} {e : Env} {s : State} {m : MethodId} {args : Array Value} {below : List Frame} {meth : Method} {c : Code} (X : Cx G p s m args meth c cX11_odd 5 RX11 (some .int)) {r : Int32} {υ : Hp} {k28 : Hp → Int32 → Int32 → OR} (hk28 : ∀ (τ : Hp) (v1 v2 : Int32) (H : Heap) (locs : List Loc) (ls : Array Slot), Hs G τ s H locs → lv_has ls 5 [(0, .ref (aG G 42)), (1, .int v1), (2, .int v2)] → k28 τ v1 v2 = some (r, υ) → WI l G (rmG 1 25) p e s m args below meth c r υ H locs (F0 m 28 ls [])) {τ : Hp} {v1 v2 : Int32} {H : Heap} {locs : List Loc} {ls : Array Slot} (hH : Hs G τ s H locs) (hl : lv_has ls 5 [(0, .ref (aG G 42)), (1, .int v1), (2, .int v2)]) (hf : f_Mo_odd_L28b N 42 k28 τ v1 v2 = some (r, υ)) : WI l G (rmG 1 25) p e s m args below meth c r υ H locs (F0 m 28 ls []) := by
  have hx := X.hx
  have hb := X.hb
  unfold f_Mo_odd_L28b at hf
  refine lv_iload_n hx hb dX11_odd_28 rfl (lv_at hl 2 rfl) ?_
  refine lv_aload_n hx hb dX11_odd_29 rfl (lv_at hl 0 rfl) ?_
  refine g_get X hH (fa_42_4 G) tw_530 dX11_odd_30 ?_
  refine lv_icmp_ge (tgt := 171) hx hb dX11_odd_33 (by decide) (fun c1 => ?_) (fun c1 => ?_)
  · have hf := e_t c1 hf
    refine lv_aload_n hx hb dX11_odd_171 rfl (lv_at hl 0 rfl) ?_
    refine g_get X hH (fa_42_38 G) tw_564 dX11_odd_172 ?_
    exact r_i X hH hf dX11_odd_175
  · have hf := e_f c1 hf
    refine lv_aload_n hx hb dX11_odd_36 rfl (lv_at hl 0 rfl) ?_
    refine g_get X hH (fa_42_6 G) tw_532 dX11_odd_37 ?_
    refine lv_iload_n hx hb dX11_odd_40 rfl (lv_at hl 2 rfl) ?_
    obtain ⟨g2, hf⟩ := e_g hf
    refine a_ld X hH (aa_46 G) g2 dX11_odd_41 ?_
    refine lv_iload_n hx hb dX11_odd_42 rfl (lv_at hl 1 rfl) ?_
    refine lv_icmp_eq (tgt := 49) hx hb dX11_odd_43 (by decide) (fun c3 => ?_) (fun c3 => ?_)
    · have hf := e_t c3 hf
      refine lv_aload_n hx hb dX11_odd_49 rfl (lv_at hl 0 rfl) ?_
      refine g_get X hH (fa_42_5 G) tw_531 dX11_odd_50 ?_
      refine lv_iload_n hx hb dX11_odd_53 rfl (lv_at hl 2 rfl) ?_
      obtain ⟨g4, hf⟩ := e_g hf
      refine a_ld X hH (aa_45 G) g4 dX11_odd_54 ?_
      obtain ⟨x5, ex5, hf⟩ := e_l hf
      refine g_nm ex5 ?_
      refine lv_istore_n (lv' := [(3, .int x5), (0, .ref (aG G 42)), (1, .int v1), (2, .int v2)]) hx hb dX11_odd_55 rfl hl (by decide) rfl (fun ls hl => ?_)
      refine lv_aload_n hx hb dX11_odd_56 rfl (lv_at hl 1 rfl) ?_
      refine g_get X hH (fa_42_3 G) tw_529 dX11_odd_57 ?_
      refine lv_iload_n hx hb dX11_odd_60 rfl (lv_at hl 0 rfl) ?_
      refine lv_bipush (v := 32) hx hb dX11_odd_61 (by decide) ?_
      refine lv_idiv hx hb dX11_odd_63 (by decide) ?_
      obtain ⟨g6, hf⟩ := e_g hf
      refine a_ld X hH (aa_44 G) g6 dX11_odd_64 ?_
      refine lv_iconst (v := (-1)) hx hb dX11_odd_65 (by decide) ?_
      refine lv_icmp_eq (tgt := 88) hx hb dX11_odd_66 (by decide) (fun c7 => ?_) (fun c7 => ?_)
      · have hf := e_t c7 hf
        exact b_Mo_odd_42_88 (N := N) X hk28 hH (lv_sub hl [1, 2, 3, 0] rfl) hf
      · have hf := e_f c7 hf
        refine lv_aload_n hx hb dX11_odd_69 rfl (lv_at hl 1 rfl) ?_
        refine g_get X hH (fa_42_3 G) tw_529 dX11_odd_70 ?_
        refine lv_iload_n hx hb dX11_odd_73 rfl (lv_at hl 0 rfl) ?_
        refine lv_iconst (v := 4) hx hb dX11_odd_74 (by decide) ?_
        refine lv_idiv hx hb dX11_odd_75 (by decide) ?_
        refine lv_bipush (v := 8) hx hb dX11_odd_76 (by decide) ?_
        refine lv_irem hx hb dX11_odd_78 (by decide) ?_
        obtain ⟨g8, hf⟩ := e_g hf
        refine a_ld X hH (aa_44 G) g8 dX11_odd_79 ?_
        refine lv_iconst (v := (-1)) hx hb dX11_odd_80 (by decide) ?_
        refine lv_icmp_eq (tgt := 88) hx hb dX11_odd_81 (by decide) (fun c9 => ?_) (fun c9 => ?_)
        · have hf := e_t c9 hf
          exact b_Mo_odd_42_88 (N := N) X hk28 hH (lv_sub hl [1, 2, 3, 0] rfl) hf
        · have hf := e_f c9 hf
          refine lv_iconst (v := 1) hx hb dX11_odd_84 (by decide) ?_
          refine lv_goto (tgt := 89) hx hb dX11_odd_85 (by decide) ?_
          exact b_Mo_odd_42_89 (N := N) X hk28 hH (lv_sub hl [1, 2, 3, 0] rfl) hf
    · have hf := e_f c3 hf
      refine lv_goto (tgt := 165) hx hb dX11_odd_46 (by decide) ?_
      obtain ⟨x10, ex10, hf⟩ := e_l hf
      refine lv_iinc (v := x10) (lv' := [(2, .int x10), (0, .ref (aG G 42)), (1, .int v1)]) hx hb dX11_odd_165 hl (k := 2) rfl (by rw [ex10]; rfl) (by decide) rfl (fun ls hl => ?_)
      refine lv_goto (tgt := 28) hx hb dX11_odd_168 (by decide) ?_
      exact hk28 _ _ _ _ _ _ hH (lv_sub hl [1, 2, 0] rfl) hf
theorem b_Mo_odd_42_28 {l : Launch} {G : GT} {N : Nat} {p : Program} {e : Env} {s : State} {m : MethodId} {args : Array Value} {below : List Frame} {meth : Method} {c : Code} (X : Cx G p s m args meth c cX11_odd 5 RX11 (some .int)) {r : Int32} {υ : Hp} : ∀ (n : Nat) (τ : Hp) (v1 v2 : Int32) (H : Heap) (locs : List Loc) (ls : Array Slot), Hs G τ s H locs → lv_has ls 5 [(0, .ref (aG G 42)), (1, .int v1), (2, .int v2)] → f_Mo_odd_L28 N 42 n τ v1 v2 = some (r, υ) → WI l G (rmG 1 25) p e s m args below meth c r υ H locs (F0 m 28 ls []) := by
  intro n
  induction n with
  | zero => intro τ v1 v2 H locs ls hH hl hf; exact nomatch (show (none : OR) = some (r, υ) from hf)
  | succ n ih => intro τ v1 v2 H locs ls hH hl hf; exact b_Mo_odd_42_28b (N := N) X ih hH hl hf
set_option maxHeartbeats 4000000 in
set_option maxRecDepth 100000 in
theorem b_Mo_odd_42_0 {l : Launch} {G : GT} {N : Nat} {p : Program} {e : Env} {s : State} {m : MethodId} {args : Array Value} {below : List Frame} {meth : Method} {c : Code} (X : Cx G p s m args meth c cX11_odd 5 RX11 (some .int)) {r : Int32} {υ : Hp} {τ : Hp} {v1 : Int32} {H : Heap} {locs : List Loc} {ls : Array Slot} (hH : Hs G τ s H locs) (hl : lv_has ls 5 [(0, .ref (aG G 42)), (1, .int v1)]) (hf : f_Mo_odd N 42 τ v1 = some (r, υ)) : WI l G (rmG 1 25) p e s m args below meth c r υ H locs (F0 m 0 ls []) := by
  have hx := X.hx
  have hb := X.hb
  unfold f_Mo_odd at hf
  refine lv_aload_n hx hb dX11_odd_0 rfl (lv_at hl 0 rfl) ?_
  refine lv_iconst (v := 0) hx hb dX11_odd_1 (by decide) ?_
  obtain ⟨τ1, eτ1, hf⟩ := e_l hf
  refine g_put X hH (fp_42_0 G) tw_526 rfl rfl dX11_odd_2 (fun H locs hH => ?_)
  have hH : Hs G τ1 s H locs := by rw [eτ1]; exact hH
  refine lv_iload_n hx hb dX11_odd_5 rfl (lv_at hl 1 rfl) ?_
  obtain ⟨r2, τ3, hc4, hf⟩ := e_b hf
  refine c_Si X hH (n := 1) (As := [.int _]) (rest := []) (c_Mo_isDay l G (N := N) hc4) tw_621 tw_619 tw_620 tw_13 (by decide +kernel) ⟨by decide, by decide⟩ rfl hl.1 rfl (Nat.le_of_ble_eq_true rfl) ⟨Nat.zero_le _, Nat.zero_le _⟩ dX11_odd_6 (fun H locs hH => ?_)
  refine lv_if_eq (tgt := 19) hx hb dX11_odd_9 (by decide) (fun c5 => ?_) (fun c5 => ?_)
  · have hf := e_t c5 hf
    refine lv_iconst (v := (-1)) hx hb dX11_odd_19 (by decide) ?_
    exact r_i X hH hf dX11_odd_20
  · have hf := e_f c5 hf
    refine lv_aload_n hx hb dX11_odd_12 rfl (lv_at hl 0 rfl) ?_
    refine g_get X hH (fa_42_19 G) tw_545 dX11_odd_13 ?_
    refine lv_if_ne (tgt := 21) hx hb dX11_odd_16 (by decide) (fun c6 => ?_) (fun c6 => ?_)
    · have hf := e_f c6 hf
      refine lv_aload_n hx hb dX11_odd_21 rfl (lv_at hl 0 rfl) ?_
      refine lv_iconst (v := 0) hx hb dX11_odd_22 (by decide) ?_
      obtain ⟨τ7, eτ7, hf⟩ := e_l hf
      refine g_put X hH (fp_42_38 G) tw_564 rfl rfl dX11_odd_23 (fun H locs hH => ?_)
      have hH : Hs G τ7 s H locs := by rw [eτ7]; exact hH
      refine lv_iconst (v := 0) hx hb dX11_odd_26 (by decide) ?_
      refine lv_istore_n (lv' := [(2, .int 0), (0, .ref (aG G 42)), (1, .int v1)]) hx hb dX11_odd_27 rfl hl (by decide) rfl (fun ls hl => ?_)
      exact b_Mo_odd_42_28 (N := N) X _ _ _ _ _ _ _ hH (lv_sub hl [1, 2, 0] rfl) hf
    · have hf := e_t c6 hf
      refine lv_iconst (v := (-1)) hx hb dX11_odd_19 (by decide) ?_
      exact r_i X hH hf dX11_odd_20
theorem c_Mo_odd_42 (l : Launch) (G : GT) {N : Nat} {τ υ : Hp} {v1 : Int32} {r : Int32} (hf : f_Mo_odd N 42 τ v1 = some (r, υ)) : MI l G yX11_odd cX11_odd 5 (some .int) 1 25 [.ref (aG G 42), .int v1] τ r υ := mk_I (by decide) (Nat.le_of_ble_eq_true rfl) (fun p e s m args below meth c X hH ls hl => b_Mo_odd_42_0 (N := N) X hH (lv_sub hl [0, 1] rfl) hf)
set_option maxHeartbeats 4000000 in
set_option maxRecDepth 100000 in
theorem b_WP_oddTalk_0_0 {l : Launch} {G : GT} {N : Nat} {p : Program} {e : Env} {s : State} {m : MethodId} {args : Array Value} {below : List Frame} {meth : Method} {c : Code} (X : Cx G p s m args meth c cX10_oddTalk 4 RX10 (some .int)) {r : Int32} {υ : Hp} {τ : Hp} {v1 v2 : Int32} {H : Heap} {locs : List Loc} {ls : Array Slot} (hH : Hs G τ s H locs) (hl : lv_has ls 4 [(0, .ref (aG G 0)), (1, .int v1), (2, .int v2)]) (hf : f_WP_oddTalk N 0 τ v1 v2 = some (r, υ)) : WI l G (rmG 1 22) p e s m args below meth c r υ H locs (F0 m 0 ls []) := by
  have hx := X.hx
  have hb := X.hb
  unfold f_WP_oddTalk at hf
  refine lv_iload_n hx hb dX10_oddTalk_0 rfl (lv_at hl 1 rfl) ?_
  refine lv_iconst (v := 0) hx hb dX10_oddTalk_1 (by decide) ?_
  refine lv_aload_n hx hb dX10_oddTalk_2 rfl (lv_at hl 0 rfl) ?_
  refine g_get X hH (fa_0_8 G) tw_182 dX10_oddTalk_3 ?_
  refine g_getN X hH (fa_39_2 G) 54 rfl dX10_oddTalk_6 ?_
  refine lv_iconst (v := 1) hx hb dX10_oddTalk_9 (by decide) ?_
  refine lv_isub hx hb dX10_oddTalk_10 ?_
  obtain ⟨r1, τ2, hc3, hf⟩ := e_b hf
  refine c_Si X hH (n := 3) (As := [.int _, .int _, .int _]) (rest := []) (c_WP_isBetween l G (N := N) hc3) tw_198 tw_196 tw_197 tw_1 (by decide +kernel) ⟨by decide, by decide⟩ rfl hl.1 rfl (Nat.le_of_ble_eq_true rfl) ⟨Nat.zero_le _, Nat.zero_le _⟩ dX10_oddTalk_11 (fun H locs hH => ?_)
  refine lv_if_ne (tgt := 19) hx hb dX10_oddTalk_14 (by decide) (fun c4 => ?_) (fun c4 => ?_)
  · have hf := e_f c4 hf
    refine lv_aload_n hx hb dX10_oddTalk_19 rfl (lv_at hl 0 rfl) ?_
    refine g_get X hH (fa_0_8 G) tw_182 dX10_oddTalk_20 ?_
    refine g_getN X hH (fa_39_0 G) 52 rfl dX10_oddTalk_23 ?_
    refine lv_iload_n hx hb dX10_oddTalk_26 rfl (lv_at hl 1 rfl) ?_
    obtain ⟨g5, hf⟩ := e_g hf
    refine a_ld X hH (aa_40 G) g5 dX10_oddTalk_27 ?_
    obtain ⟨x6, ex6, hf⟩ := e_l hf
    refine g_nm ex6 ?_
    refine lv_istore_n (lv' := [(3, .int x6), (0, .ref (aG G 0)), (1, .int v1), (2, .int v2)]) hx hb dX10_oddTalk_28 rfl hl (by decide) rfl (fun ls hl => ?_)
    refine lv_iload_n hx hb dX10_oddTalk_29 rfl (lv_at hl 3 rfl) ?_
    refine lv_topi (fun y7 ey7 => ?_)
    rw [← ey7] at hf
    by_cases c8 : y7 = 0
    · have hf := e_t c8 hf
      refine lv_tableIn (tgt := 64) hx hb dX10_oddTalk_30 (by rw [c8]; decide) (by rw [c8]; decide) (off := 34) (by rw [c8]; decide) (by decide) ?_
      refine lv_aload_n hx hb dX10_oddTalk_64 rfl (lv_at hl 1 rfl) ?_
      refine g_get X hH (fa_0_2 G) tw_176 dX10_oddTalk_65 ?_
      refine g_getN X hH (fa_6_0 G) 17 rfl dX10_oddTalk_68 ?_
      refine lv_iload_n hx hb dX10_oddTalk_71 rfl (lv_at hl 0 rfl) ?_
      obtain ⟨g9, hf⟩ := e_g hf
      refine a_ld X hH (aa_7 G) g9 dX10_oddTalk_72 ?_
      obtain ⟨r10, τ11, hc12, hf⟩ := e_b hf
      refine c_Si X hH (n := 1) (As := [.int _]) (rest := []) (c_WP_firstOf l G (N := N) hc12) tw_360 tw_374 tw_359 tw_1 (by decide +kernel) ⟨by decide, by decide⟩ rfl hl.1 rfl (Nat.le_of_ble_eq_true rfl) ⟨Nat.zero_le _, Nat.zero_le _⟩ dX10_oddTalk_73 (fun H locs hH => ?_)
      exact r_i X hH hf dX10_oddTalk_76
    have hf := e_f c8 hf
    by_cases c13 : y7 = 1
    · have hf := e_t c13 hf
      refine lv_tableIn (tgt := 77) hx hb dX10_oddTalk_30 (by rw [c13]; decide) (by rw [c13]; decide) (off := 47) (by rw [c13]; decide) (by decide) ?_
      refine lv_aload_n hx hb dX10_oddTalk_77 rfl (lv_at hl 1 rfl) ?_
      refine g_get X hH (fa_0_2 G) tw_176 dX10_oddTalk_78 ?_
      refine g_getN X hH (fa_6_0 G) 17 rfl dX10_oddTalk_81 ?_
      refine lv_iload_n hx hb dX10_oddTalk_84 rfl (lv_at hl 0 rfl) ?_
      obtain ⟨g14, hf⟩ := e_g hf
      refine a_ld X hH (aa_7 G) g14 dX10_oddTalk_85 ?_
      obtain ⟨r15, τ16, hc17, hf⟩ := e_b hf
      refine c_Si X hH (n := 1) (As := [.int _]) (rest := []) (c_WP_secondOf l G (N := N) hc17) tw_362 tw_375 tw_361 tw_1 (by decide +kernel) ⟨by decide, by decide⟩ rfl hl.1 rfl (Nat.le_of_ble_eq_true rfl) ⟨Nat.zero_le _, Nat.zero_le _⟩ dX10_oddTalk_86 (fun H locs hH => ?_)
      exact r_i X hH hf dX10_oddTalk_89
    have hf := e_f c13 hf
    by_cases c18 : y7 = 2
    · have hf := e_t c18 hf
      refine lv_tableIn (tgt := 90) hx hb dX10_oddTalk_30 (by rw [c18]; decide) (by rw [c18]; decide) (off := 60) (by rw [c18]; decide) (by decide) ?_
      refine lv_aload_n hx hb dX10_oddTalk_90 rfl (lv_at hl 1 rfl) ?_
      refine g_get X hH (fa_0_2 G) tw_176 dX10_oddTalk_91 ?_
      refine g_getN X hH (fa_6_0 G) 17 rfl dX10_oddTalk_94 ?_
      refine lv_iload_n hx hb dX10_oddTalk_97 rfl (lv_at hl 0 rfl) ?_
      obtain ⟨g19, hf⟩ := e_g hf
      refine a_ld X hH (aa_7 G) g19 dX10_oddTalk_98 ?_
      obtain ⟨r20, τ21, hc22, hf⟩ := e_b hf
      refine c_Si X hH (n := 1) (As := [.int _]) (rest := []) (c_WP_doorOf l G (N := N) hc22) tw_364 tw_376 tw_363 tw_1 (by decide +kernel) ⟨by decide, by decide⟩ rfl hl.1 rfl (Nat.le_of_ble_eq_true rfl) ⟨Nat.zero_le _, Nat.zero_le _⟩ dX10_oddTalk_99 (fun H locs hH => ?_)
      exact r_i X hH hf dX10_oddTalk_102
    have hf := e_f c18 hf
    by_cases c23 : y7 = 3
    · have hf := e_t c23 hf
      refine lv_tableIn (tgt := 103) hx hb dX10_oddTalk_30 (by rw [c23]; decide) (by rw [c23]; decide) (off := 73) (by rw [c23]; decide) (by decide) ?_
      refine lv_aload_n hx hb dX10_oddTalk_103 rfl (lv_at hl 1 rfl) ?_
      refine g_get X hH (fa_0_2 G) tw_176 dX10_oddTalk_104 ?_
      refine g_getN X hH (fa_6_2 G) 19 rfl dX10_oddTalk_107 ?_
      refine lv_iload_n hx hb dX10_oddTalk_110 rfl (lv_at hl 0 rfl) ?_
      obtain ⟨g24, hf⟩ := e_g hf
      refine a_ld X hH (aa_9 G) g24 dX10_oddTalk_111 ?_
      exact r_i X hH hf dX10_oddTalk_112
    have hf := e_f c23 hf
    by_cases c25 : y7 = 4
    · have hf := e_t c25 hf
      refine lv_tableIn (tgt := 113) hx hb dX10_oddTalk_30 (by rw [c25]; decide) (by rw [c25]; decide) (off := 83) (by rw [c25]; decide) (by decide) ?_
      refine lv_aload_n hx hb dX10_oddTalk_113 rfl (lv_at hl 1 rfl) ?_
      refine g_get X hH (fa_0_8 G) tw_182 dX10_oddTalk_114 ?_
      refine g_getN X hH (fa_39_1 G) 53 rfl dX10_oddTalk_117 ?_
      refine lv_iload_n hx hb dX10_oddTalk_120 rfl (lv_at hl 2 rfl) ?_
      obtain ⟨g26, hf⟩ := e_g hf
      refine a_ld X hH (aa_41 G) g26 dX10_oddTalk_121 ?_
      exact r_i X hH hf dX10_oddTalk_122
    have hf := e_f c25 hf
    refine lv_tableOut (tgt := 123) hx hb dX10_oddTalk_30 (sw_out 4 (fun j hj => ?_)) (by decide) ?_
    · rcases (show j = 0 ∨ j = 1 ∨ j = 2 ∨ j = 3 ∨ j = 4 by omega) with rfl | rfl | rfl | rfl | rfl
      · exact c8
      · exact c13
      · exact c18
      · exact c23
      · exact c25
    refine lv_iconst (v := (-1)) hx hb dX10_oddTalk_123 (by decide) ?_
    exact r_i X hH hf dX10_oddTalk_124
  · have hf := e_t c4 hf
    refine lv_iconst (v := (-1)) hx hb dX10_oddTalk_17 (by decide) ?_
    exact r_i X hH hf dX10_oddTalk_18
theorem c_WP_oddTalk_0 (l : Launch) (G : GT) {N : Nat} {τ υ : Hp} {v1 v2 : Int32} {r : Int32} (hf : f_WP_oddTalk N 0 τ v1 v2 = some (r, υ)) : MI l G yX10_oddTalk cX10_oddTalk 4 (some .int) 1 22 [.ref (aG G 0), .int v1, .int v2] τ r υ := mk_I (by decide) (Nat.le_of_ble_eq_true rfl) (fun p e s m args below meth c X hH ls hl => b_WP_oddTalk_0_0 (N := N) X hH (lv_sub hl [0, 1, 2] rfl) hf)
set_option maxHeartbeats 4000000 in
set_option maxRecDepth 100000 in
theorem b_Mo_oddTalk_42_0 {l : Launch} {G : GT} {N : Nat} {p : Program} {e : Env} {s : State} {m : MethodId} {args : Array Value} {below : List Frame} {meth : Method} {c : Code} (X : Cx G p s m args meth c cX11_oddTalk 3 RX11 (some .int)) {r : Int32} {υ : Hp} {τ : Hp} {v1 v2 : Int32} {H : Heap} {locs : List Loc} {ls : Array Slot} (hH : Hs G τ s H locs) (hl : lv_has ls 3 [(0, .ref (aG G 42)), (1, .int v1), (2, .int v2)]) (hf : f_Mo_oddTalk N 42 τ v1 v2 = some (r, υ)) : WI l G (rmG 0 0) p e s m args below meth c r υ H locs (F0 m 0 ls []) := by
  have hx := X.hx
  have hb := X.hb
  unfold f_Mo_oddTalk at hf
  refine lv_aload_n hx hb dX11_oddTalk_0 rfl (lv_at hl 0 rfl) ?_
  refine lv_iconst (v := 0) hx hb dX11_oddTalk_1 (by decide) ?_
  obtain ⟨τ1, eτ1, hf⟩ := e_l hf
  refine g_put X hH (fp_42_0 G) tw_526 rfl rfl dX11_oddTalk_2 (fun H locs hH => ?_)
  have hH : Hs G τ1 s H locs := by rw [eτ1]; exact hH
  refine lv_iload_n hx hb dX11_oddTalk_5 rfl (lv_at hl 1 rfl) ?_
  refine lv_if_lt (tgt := 17) hx hb dX11_oddTalk_6 (by decide) (fun c2 => ?_) (fun c2 => ?_)
  · have hf := e_t c2 hf
    refine lv_iconst (v := (-1)) hx hb dX11_oddTalk_17 (by decide) ?_
    exact r_i X hH hf dX11_oddTalk_18
  · have hf := e_f c2 hf
    refine lv_iload_n hx hb dX11_oddTalk_9 rfl (lv_at hl 1 rfl) ?_
    refine lv_aload_n hx hb dX11_oddTalk_10 rfl (lv_at hl 0 rfl) ?_
    refine g_get X hH (fa_42_38 G) tw_564 dX11_oddTalk_11 ?_
    refine lv_icmp_lt (tgt := 19) hx hb dX11_oddTalk_14 (by decide) (fun c3 => ?_) (fun c3 => ?_)
    · have hf := e_t c3 hf
      refine lv_iload_n hx hb dX11_oddTalk_19 rfl (lv_at hl 2 rfl) ?_
      refine lv_topi (fun y4 ey4 => ?_)
      rw [← ey4] at hf
      by_cases c5 : y4 = 0
      · have hf := e_t c5 hf
        refine lv_tableIn (tgt := 56) hx hb dX11_oddTalk_20 (by rw [c5]; decide) (by rw [c5]; decide) (off := 36) (by rw [c5]; decide) (by decide) ?_
        refine lv_aload_n hx hb dX11_oddTalk_56 rfl (lv_at hl 0 rfl) ?_
        refine g_get X hH (fa_42_35 G) tw_561 dX11_oddTalk_57 ?_
        refine lv_iload_n hx hb dX11_oddTalk_60 rfl (lv_at hl 1 rfl) ?_
        obtain ⟨g6, hf⟩ := e_g hf
        refine a_ld X hH (aa_63 G) g6 dX11_oddTalk_61 ?_
        refine lv_bipush (v := 32) hx hb dX11_oddTalk_62 (by decide) ?_
        refine lv_idiv hx hb dX11_oddTalk_64 (by decide) ?_
        exact r_i X hH hf dX11_oddTalk_65
      have hf := e_f c5 hf
      by_cases c7 : y4 = 1
      · have hf := e_t c7 hf
        refine lv_tableIn (tgt := 66) hx hb dX11_oddTalk_20 (by rw [c7]; decide) (by rw [c7]; decide) (off := 46) (by rw [c7]; decide) (by decide) ?_
        refine lv_aload_n hx hb dX11_oddTalk_66 rfl (lv_at hl 0 rfl) ?_
        refine g_get X hH (fa_42_35 G) tw_561 dX11_oddTalk_67 ?_
        refine lv_iload_n hx hb dX11_oddTalk_70 rfl (lv_at hl 1 rfl) ?_
        obtain ⟨g8, hf⟩ := e_g hf
        refine a_ld X hH (aa_63 G) g8 dX11_oddTalk_71 ?_
        refine lv_iconst (v := 4) hx hb dX11_oddTalk_72 (by decide) ?_
        refine lv_idiv hx hb dX11_oddTalk_73 (by decide) ?_
        refine lv_bipush (v := 8) hx hb dX11_oddTalk_74 (by decide) ?_
        refine lv_irem hx hb dX11_oddTalk_76 (by decide) ?_
        exact r_i X hH hf dX11_oddTalk_77
      have hf := e_f c7 hf
      by_cases c9 : y4 = 2
      · have hf := e_t c9 hf
        refine lv_tableIn (tgt := 78) hx hb dX11_oddTalk_20 (by rw [c9]; decide) (by rw [c9]; decide) (off := 58) (by rw [c9]; decide) (by decide) ?_
        refine lv_aload_n hx hb dX11_oddTalk_78 rfl (lv_at hl 0 rfl) ?_
        refine g_get X hH (fa_42_35 G) tw_561 dX11_oddTalk_79 ?_
        refine lv_iload_n hx hb dX11_oddTalk_82 rfl (lv_at hl 1 rfl) ?_
        obtain ⟨g10, hf⟩ := e_g hf
        refine a_ld X hH (aa_63 G) g10 dX11_oddTalk_83 ?_
        refine lv_iconst (v := 4) hx hb dX11_oddTalk_84 (by decide) ?_
        refine lv_irem hx hb dX11_oddTalk_85 (by decide) ?_
        exact r_i X hH hf dX11_oddTalk_86
      have hf := e_f c9 hf
      by_cases c11 : y4 = 3
      · have hf := e_t c11 hf
        refine lv_tableIn (tgt := 87) hx hb dX11_oddTalk_20 (by rw [c11]; decide) (by rw [c11]; decide) (off := 67) (by rw [c11]; decide) (by decide) ?_
        refine lv_aload_n hx hb dX11_oddTalk_87 rfl (lv_at hl 0 rfl) ?_
        refine g_get X hH (fa_42_36 G) tw_562 dX11_oddTalk_88 ?_
        refine lv_iload_n hx hb dX11_oddTalk_91 rfl (lv_at hl 1 rfl) ?_
        obtain ⟨g12, hf⟩ := e_g hf
        refine a_ld X hH (aa_64 G) g12 dX11_oddTalk_92 ?_
        exact r_i X hH hf dX11_oddTalk_93
      have hf := e_f c11 hf
      by_cases c13 : y4 = 4
      · have hf := e_t c13 hf
        refine lv_tableIn (tgt := 94) hx hb dX11_oddTalk_20 (by rw [c13]; decide) (by rw [c13]; decide) (off := 74) (by rw [c13]; decide) (by decide) ?_
        refine lv_aload_n hx hb dX11_oddTalk_94 rfl (lv_at hl 0 rfl) ?_
        refine g_get X hH (fa_42_37 G) tw_563 dX11_oddTalk_95 ?_
        refine lv_iload_n hx hb dX11_oddTalk_98 rfl (lv_at hl 1 rfl) ?_
        obtain ⟨g14, hf⟩ := e_g hf
        refine a_ld X hH (aa_65 G) g14 dX11_oddTalk_99 ?_
        exact r_i X hH hf dX11_oddTalk_100
      have hf := e_f c13 hf
      refine lv_tableOut (tgt := 101) hx hb dX11_oddTalk_20 (sw_out 4 (fun j hj => ?_)) (by decide) ?_
      · rcases (show j = 0 ∨ j = 1 ∨ j = 2 ∨ j = 3 ∨ j = 4 by omega) with rfl | rfl | rfl | rfl | rfl
        · exact c5
        · exact c7
        · exact c9
        · exact c11
        · exact c13
      refine lv_iconst (v := (-1)) hx hb dX11_oddTalk_101 (by decide) ?_
      exact r_i X hH hf dX11_oddTalk_102
    · have hf := e_f c3 hf
      refine lv_iconst (v := (-1)) hx hb dX11_oddTalk_17 (by decide) ?_
      exact r_i X hH hf dX11_oddTalk_18
theorem c_Mo_oddTalk_42 (l : Launch) (G : GT) {N : Nat} {τ υ : Hp} {v1 v2 : Int32} {r : Int32} (hf : f_Mo_oddTalk N 42 τ v1 v2 = some (r, υ)) : MI l G yX11_oddTalk cX11_oddTalk 3 (some .int) 0 0 [.ref (aG G 42), .int v1, .int v2] τ r υ := mk_I (by decide) (Nat.le_of_ble_eq_true rfl) (fun p e s m args below meth c X hH ls hl => b_Mo_oddTalk_42_0 (N := N) X hH (lv_sub hl [0, 1, 2] rfl) hf)
set_option maxHeartbeats 4000000 in
set_option maxRecDepth 100000 in
theorem b_Ly_copyRooms_22_12_0 {l : Launch} {G : GT} {N : Nat} {p : Program} {e : Env} {s : State} {m : MethodId} {args : Array Value} {below : List Frame} {meth : Method} {c : Code} (X : Cx G p s m args meth c cX2_copyRooms 2 RX2 none) {r : Int32} {υ : Hp} {τ : Hp} {H : Heap} {locs : List Loc} {ls : Array Slot} (hH : Hs G τ s H locs) (hl : lv_has ls 2 [(0, .ref (aG G 22)), (1, .ref (aG G 12))]) (hf : f_Ly_copyRooms N 22 12 τ = some (r, υ)) : WV l G (rmG 1 40) p e s m args below meth c υ H locs (F0 m 0 ls []) := by
  have hx := X.hx
  have hb := X.hb
  unfold f_Ly_copyRooms at hf
  refine lv_aload_n hx hb dX2_copyRooms_0 rfl (lv_at hl 1 rfl) ?_
  refine lv_iconst (v := 0) hx hb dX2_copyRooms_1 (by decide) ?_
  refine lv_aload_n hx hb dX2_copyRooms_2 rfl (lv_at hl 0 rfl) ?_
  refine g_get X hH (fa_22_0 G) tw_81 dX2_copyRooms_3 ?_
  refine lv_iconst (v := 0) hx hb dX2_copyRooms_6 (by decide) ?_
  refine lv_bipush (v := 8) hx hb dX2_copyRooms_7 (by decide) ?_
  obtain ⟨τ1, eτ1, hf⟩ := e_l hf
  refine a_cp X hH (aa_12 G) (aa_23 G) (N := 8) hl.1.symm tw_348 tw_336 tw_335 tw_15 (by decide) (by decide) (by decide) (by decide) (by decide) (Nat.le_of_ble_eq_true rfl) dX2_copyRooms_9 (fun H locs hH => ?_)
  have hH : Hs G τ1 s H locs := by rw [eτ1]; exact hH
  exact r_v X hH hf dX2_copyRooms_12
theorem c_Ly_copyRooms_22_12 (l : Launch) (G : GT) {N : Nat} {τ υ : Hp} {r : Int32} (hf : f_Ly_copyRooms N 22 12 τ = some (r, υ)) : MV l G yX2_copyRooms cX2_copyRooms 2 1 40 [.ref (aG G 22), .ref (aG G 12)] τ υ := mk_V (by decide) (Nat.le_of_ble_eq_true rfl) (fun p e s m args below meth c X hH ls hl => b_Ly_copyRooms_22_12_0 (N := N) X hH (lv_sub hl [0, 1] rfl) hf)
set_option maxHeartbeats 4000000 in
set_option maxRecDepth 100000 in
theorem b_Ly_roomCount_22_4b {l : Launch} {G : GT} {N : Nat} {p : Program} {e : Env} {s : State} {m : MethodId} {args : Array Value} {below : List Frame} {meth : Method} {c : Code} (X : Cx G p s m args meth c cX2_roomCount 3 RX2 (some .int)) {r : Int32} {υ : Hp} {k4 : Hp → Int32 → Int32 → OR} (hk4 : ∀ (τ : Hp) (v1 v2 : Int32) (H : Heap) (locs : List Loc) (ls : Array Slot), Hs G τ s H locs → lv_has ls 3 [(0, .ref (aG G 22)), (1, .int v1), (2, .int v2)] → k4 τ v1 v2 = some (r, υ) → WI l G (rmG 1 21) p e s m args below meth c r υ H locs (F0 m 4 ls [])) {τ : Hp} {v1 v2 : Int32} {H : Heap} {locs : List Loc} {ls : Array Slot} (hH : Hs G τ s H locs) (hl : lv_has ls 3 [(0, .ref (aG G 22)), (1, .int v1), (2, .int v2)]) (hf : f_Ly_roomCount_L4b N 22 k4 τ v1 v2 = some (r, υ)) : WI l G (rmG 1 21) p e s m args below meth c r υ H locs (F0 m 4 ls []) := by
  have hx := X.hx
  have hb := X.hb
  unfold f_Ly_roomCount_L4b at hf
  refine lv_iload_n hx hb dX2_roomCount_4 rfl (lv_at hl 2 rfl) ?_
  refine lv_bipush (v := 8) hx hb dX2_roomCount_5 (by decide) ?_
  refine lv_icmp_ge (tgt := 27) hx hb dX2_roomCount_7 (by decide) (fun c1 => ?_) (fun c1 => ?_)
  · have hf := e_t c1 hf
    refine lv_iload_n hx hb dX2_roomCount_27 rfl (lv_at hl 1 rfl) ?_
    refine lv_iconst (v := 1) hx hb dX2_roomCount_28 (by decide) ?_
    refine lv_iadd hx hb dX2_roomCount_29 ?_
    exact r_i X hH hf dX2_roomCount_30
  · have hf := e_f c1 hf
    refine lv_iload_n hx hb dX2_roomCount_10 rfl (lv_at hl 1 rfl) ?_
    refine lv_aload_n hx hb dX2_roomCount_11 rfl (lv_at hl 0 rfl) ?_
    refine g_get X hH (fa_22_0 G) tw_81 dX2_roomCount_12 ?_
    refine lv_iload_n hx hb dX2_roomCount_15 rfl (lv_at hl 2 rfl) ?_
    obtain ⟨g2, hf⟩ := e_g hf
    refine a_ld X hH (aa_23 G) g2 dX2_roomCount_16 ?_
    refine g_max X hl.1.symm tw_429 tw_338 tw_16 tw_339 (by decide) (Nat.le_of_ble_eq_true rfl) ⟨Nat.zero_le _, Nat.zero_le _⟩ dX2_roomCount_17 ?_
    obtain ⟨x3, ex3, hf⟩ := e_l hf
    refine g_nm ex3 ?_
    refine lv_istore_n (lv' := [(1, .int x3), (0, .ref (aG G 22)), (2, .int v2)]) hx hb dX2_roomCount_20 rfl hl (by decide) rfl (fun ls hl => ?_)
    obtain ⟨x4, ex4, hf⟩ := e_l hf
    refine lv_iinc (v := x4) (lv' := [(2, .int x4), (1, .int x3), (0, .ref (aG G 22))]) hx hb dX2_roomCount_21 hl (k := 2) rfl (by rw [ex4]; rfl) (by decide) rfl (fun ls hl => ?_)
    refine lv_goto (tgt := 4) hx hb dX2_roomCount_24 (by decide) ?_
    exact hk4 _ _ _ _ _ _ hH (lv_sub hl [2, 1, 0] rfl) hf
theorem b_Ly_roomCount_22_4 {l : Launch} {G : GT} {N : Nat} {p : Program} {e : Env} {s : State} {m : MethodId} {args : Array Value} {below : List Frame} {meth : Method} {c : Code} (X : Cx G p s m args meth c cX2_roomCount 3 RX2 (some .int)) {r : Int32} {υ : Hp} : ∀ (n : Nat) (τ : Hp) (v1 v2 : Int32) (H : Heap) (locs : List Loc) (ls : Array Slot), Hs G τ s H locs → lv_has ls 3 [(0, .ref (aG G 22)), (1, .int v1), (2, .int v2)] → f_Ly_roomCount_L4 N 22 n τ v1 v2 = some (r, υ) → WI l G (rmG 1 21) p e s m args below meth c r υ H locs (F0 m 4 ls []) := by
  intro n
  induction n with
  | zero => intro τ v1 v2 H locs ls hH hl hf; exact nomatch (show (none : OR) = some (r, υ) from hf)
  | succ n ih => intro τ v1 v2 H locs ls hH hl hf; exact b_Ly_roomCount_22_4b (N := N) X ih hH hl hf
set_option maxHeartbeats 4000000 in
set_option maxRecDepth 100000 in
theorem b_Ly_roomCount_22_0 {l : Launch} {G : GT} {N : Nat} {p : Program} {e : Env} {s : State} {m : MethodId} {args : Array Value} {below : List Frame} {meth : Method} {c : Code} (X : Cx G p s m args meth c cX2_roomCount 3 RX2 (some .int)) {r : Int32} {υ : Hp} {τ : Hp} {H : Heap} {locs : List Loc} {ls : Array Slot} (hH : Hs G τ s H locs) (hl : lv_has ls 3 [(0, .ref (aG G 22))]) (hf : f_Ly_roomCount N 22 τ = some (r, υ)) : WI l G (rmG 1 21) p e s m args below meth c r υ H locs (F0 m 0 ls []) := by
  have hx := X.hx
  have hb := X.hb
  unfold f_Ly_roomCount at hf
  refine lv_iconst (v := (-1)) hx hb dX2_roomCount_0 (by decide) ?_
  refine lv_istore_n (lv' := [(1, .int (-1)), (0, .ref (aG G 22))]) hx hb dX2_roomCount_1 rfl hl (by decide) rfl (fun ls hl => ?_)
  refine lv_iconst (v := 0) hx hb dX2_roomCount_2 (by decide) ?_
  refine lv_istore_n (lv' := [(2, .int 0), (1, .int (-1)), (0, .ref (aG G 22))]) hx hb dX2_roomCount_3 rfl hl (by decide) rfl (fun ls hl => ?_)
  exact b_Ly_roomCount_22_4 (N := N) X _ _ _ _ _ _ _ hH (lv_sub hl [2, 1, 0] rfl) hf
theorem c_Ly_roomCount_22 (l : Launch) (G : GT) {N : Nat} {τ υ : Hp} {r : Int32} (hf : f_Ly_roomCount N 22 τ = some (r, υ)) : MI l G yX2_roomCount cX2_roomCount 3 (some .int) 1 21 [.ref (aG G 22)] τ r υ := mk_I (by decide) (Nat.le_of_ble_eq_true rfl) (fun p e s m args below meth c X hH ls hl => b_Ly_roomCount_22_0 (N := N) X hH (lv_sub hl [0] rfl) hf)
set_option maxHeartbeats 4000000 in
set_option maxRecDepth 100000 in
theorem b_Sk_seekRoomFor_21_10_1_5_18_46b {l : Launch} {G : GT} {N : Nat} {p : Program} {e : Env} {s : State} {m : MethodId} {args : Array Value} {below : List Frame} {meth : Method} {c : Code} (X : Cx G p s m args meth c cX7_seekRoomFor 9 RX7 (some .int)) {r : Int32} {υ : Hp} {k46 : Hp → Int32 → Int32 → Int32 → Int32 → OR} (hk46 : ∀ (τ : Hp) (v1 v6 v7 v8 : Int32) (H : Heap) (locs : List Loc) (ls : Array Slot), Hs G τ s H locs → lv_has ls 9 [(0, .ref (aG G 21)), (1, .int v1), (3, .ref (aG G 1)), (4, .ref (aG G 5)), (5, .ref (aG G 18)), (6, .int v6), (7, .int v7), (8, .int v8)] → k46 τ v1 v6 v7 v8 = some (r, υ) → WI l G (rmG 4 98) p e s m args below meth c r υ H locs (F0 m 46 ls [])) {τ : Hp} {v1 v6 v7 v8 : Int32} {H : Heap} {locs : List Loc} {ls : Array Slot} (hH : Hs G τ s H locs) (hl : lv_has ls 9 [(0, .ref (aG G 21)), (1, .int v1), (3, .ref (aG G 1)), (4, .ref (aG G 5)), (5, .ref (aG G 18)), (6, .int v6), (7, .int v7), (8, .int v8)]) (hf : f_Sk_seekRoomFor_L46b N 21 10 1 5 18 k46 τ v1 v6 v7 v8 = some (r, υ)) : WI l G (rmG 4 98) p e s m args below meth c r υ H locs (F0 m 46 ls []) := by
  have hx := X.hx
  have hb := X.hb
  unfold f_Sk_seekRoomFor_L46b at hf
  refine lv_iload hx hb dX7_seekRoomFor_46 (lv_at hl 7 rfl) ?_
  refine lv_iload hx hb dX7_seekRoomFor_48 (lv_at hl 5 rfl) ?_
  refine lv_icmp_gt (tgt := 102) hx hb dX7_seekRoomFor_50 (by decide) (fun c1 => ?_) (fun c1 => ?_)
  · have hf := e_t c1 hf
    refine lv_iload hx hb dX7_seekRoomFor_102 (lv_at hl 6 rfl) ?_
    exact r_i X hH hf dX7_seekRoomFor_104
  · have hf := e_f c1 hf
    refine lv_iload hx hb dX7_seekRoomFor_53 (lv_at hl 7 rfl) ?_
    refine lv_bipush (v := 8) hx hb dX7_seekRoomFor_55 (by decide) ?_
    refine lv_icmp_ge (tgt := 102) hx hb dX7_seekRoomFor_57 (by decide) (fun c2 => ?_) (fun c2 => ?_)
    · have hf := e_t c2 hf
      refine lv_iload hx hb dX7_seekRoomFor_102 (lv_at hl 6 rfl) ?_
      exact r_i X hH hf dX7_seekRoomFor_104
    · have hf := e_f c2 hf
      refine lv_aload_n hx hb dX7_seekRoomFor_60 rfl (lv_at hl 0 rfl) ?_
      refine g_get X hH (fa_21_0 G) tw_120 dX7_seekRoomFor_61 ?_
      refine g_getN X hH (fa_22_0 G) 22 rfl dX7_seekRoomFor_64 ?_
      refine lv_iload_n hx hb dX7_seekRoomFor_67 rfl (lv_at hl 1 rfl) ?_
      refine lv_iload hx hb dX7_seekRoomFor_68 (lv_at hl 7 rfl) ?_
      obtain ⟨g3, hf⟩ := e_g hf
      obtain ⟨τ4, eτ4, hf⟩ := e_l hf
      refine a_st X hH (aa_23 G) g3 dX7_seekRoomFor_70 (fun H locs hH => ?_)
      have hH : Hs G τ4 s H locs := by rw [eτ4]; exact hH
      refine lv_aload_n hx hb dX7_seekRoomFor_71 rfl (lv_at hl 0 rfl) ?_
      refine lv_iload_n hx hb dX7_seekRoomFor_72 rfl (lv_at hl 1 rfl) ?_
      refine lv_aload_n hx hb dX7_seekRoomFor_73 rfl (lv_at hl 2 rfl) ?_
      refine g_getN X hH (fa_1_3 G) 6 rfl dX7_seekRoomFor_74 ?_
      refine lv_aload_n hx hb dX7_seekRoomFor_77 rfl (lv_at hl 2 rfl) ?_
      refine lv_aload hx hb dX7_seekRoomFor_78 (lv_at hl 3 rfl) ?_
      refine lv_aload hx hb dX7_seekRoomFor_80 (lv_at hl 4 rfl) ?_
      obtain ⟨r5, τ6, hc7, hf⟩ := e_b hf
      refine c_Vi X hH (k := 21) (n := 5) (As := [.int _, .int _, .ref (aG G 1), .ref (aG G 5), .ref (aG G 18)]) (rest := []) (c_Sk_isCheaper_21_1_5_18 l G (N := N) hc7) (by decide) rfl rfl tw_309 tw_307 tw_308 tw_756 tw_9 (by decide +kernel) ⟨by decide, by decide⟩ rfl hl.1 rfl (Nat.le_of_ble_eq_true rfl) ⟨Nat.zero_le _, Nat.zero_le _⟩ dX7_seekRoomFor_82 (fun H locs hH => ?_)
      refine lv_if_eq (tgt := 96) hx hb dX7_seekRoomFor_85 (by decide) (fun c8 => ?_) (fun c8 => ?_)
      · have hf := e_t c8 hf
        obtain ⟨x9, ex9, hf⟩ := e_l hf
        refine lv_iinc (v := x9) (lv' := [(8, .int x9), (0, .ref (aG G 21)), (1, .int v1), (3, .ref (aG G 1)), (4, .ref (aG G 5)), (5, .ref (aG G 18)), (6, .int v6), (7, .int v7)]) hx hb dX7_seekRoomFor_96 hl (k := 7) rfl (by rw [ex9]; rfl) (by decide) rfl (fun ls hl => ?_)
        refine lv_goto (tgt := 46) hx hb dX7_seekRoomFor_99 (by decide) ?_
        exact hk46 _ _ _ _ _ _ _ _ hH (lv_sub hl [1, 2, 3, 4, 5, 6, 7, 0] rfl) hf
      · have hf := e_f c8 hf
        refine lv_aload_n hx hb dX7_seekRoomFor_88 rfl (lv_at hl 0 rfl) ?_
        obtain ⟨r10, τ11, hc12, hf⟩ := e_b hf
        refine c_Vv X hH (k := 21) (n := 0) (As := []) (rest := []) (c_Sk_keepTrial_21 l G (N := N) hc12) (by decide) rfl rfl tw_333 tw_331 tw_332 tw_761 tw_9 (by decide +kernel) ⟨by decide, by decide⟩ rfl hl.1 rfl (Nat.le_of_ble_eq_true rfl) ⟨Nat.zero_le _, Nat.zero_le _⟩ dX7_seekRoomFor_89 (fun H locs hH => ?_)
        refine lv_iload hx hb dX7_seekRoomFor_92 (lv_at hl 7 rfl) ?_
        refine lv_istore (lv' := [(7, .int v8), (0, .ref (aG G 21)), (1, .int v1), (3, .ref (aG G 1)), (4, .ref (aG G 5)), (5, .ref (aG G 18)), (6, .int v6), (8, .int v8)]) hx hb dX7_seekRoomFor_94 hl (by decide) rfl (fun ls hl => ?_)
        obtain ⟨x13, ex13, hf⟩ := e_l hf
        refine lv_iinc (v := x13) (lv' := [(8, .int x13), (7, .int v8), (0, .ref (aG G 21)), (1, .int v1), (3, .ref (aG G 1)), (4, .ref (aG G 5)), (5, .ref (aG G 18)), (6, .int v6)]) hx hb dX7_seekRoomFor_96 hl (k := 7) rfl (by rw [ex13]; rfl) (by decide) rfl (fun ls hl => ?_)
        refine lv_goto (tgt := 46) hx hb dX7_seekRoomFor_99 (by decide) ?_
        exact hk46 _ _ _ _ _ _ _ _ hH (lv_sub hl [2, 3, 4, 5, 6, 7, 1, 0] rfl) hf
theorem b_Sk_seekRoomFor_21_10_1_5_18_46 {l : Launch} {G : GT} {N : Nat} {p : Program} {e : Env} {s : State} {m : MethodId} {args : Array Value} {below : List Frame} {meth : Method} {c : Code} (X : Cx G p s m args meth c cX7_seekRoomFor 9 RX7 (some .int)) {r : Int32} {υ : Hp} : ∀ (n : Nat) (τ : Hp) (v1 v6 v7 v8 : Int32) (H : Heap) (locs : List Loc) (ls : Array Slot), Hs G τ s H locs → lv_has ls 9 [(0, .ref (aG G 21)), (1, .int v1), (3, .ref (aG G 1)), (4, .ref (aG G 5)), (5, .ref (aG G 18)), (6, .int v6), (7, .int v7), (8, .int v8)] → f_Sk_seekRoomFor_L46 N 21 10 1 5 18 n τ v1 v6 v7 v8 = some (r, υ) → WI l G (rmG 4 98) p e s m args below meth c r υ H locs (F0 m 46 ls []) := by
  intro n
  induction n with
  | zero => intro τ v1 v6 v7 v8 H locs ls hH hl hf; exact nomatch (show (none : OR) = some (r, υ) from hf)
  | succ n ih => intro τ v1 v6 v7 v8 H locs ls hH hl hf; exact b_Sk_seekRoomFor_21_10_1_5_18_46b (N := N) X ih hH hl hf
set_option maxHeartbeats 4000000 in
set_option maxRecDepth 100000 in
theorem b_Sk_seekRoomFor_21_10_1_5_18_0 {l : Launch} {G : GT} {N : Nat} {p : Program} {e : Env} {s : State} {m : MethodId} {args : Array Value} {below : List Frame} {meth : Method} {c : Code} (X : Cx G p s m args meth c cX7_seekRoomFor 9 RX7 (some .int)) {r : Int32} {υ : Hp} {τ : Hp} {v1 : Int32} {H : Heap} {locs : List Loc} {ls : Array Slot} (hH : Hs G τ s H locs) (hl : lv_has ls 9 [(0, .ref (aG G 21)), (1, .int v1), (2, .ref (aG G 10)), (3, .ref (aG G 1)), (4, .ref (aG G 5)), (5, .ref (aG G 18))]) (hf : f_Sk_seekRoomFor N 21 10 1 5 18 τ v1 = some (r, υ)) : WI l G (rmG 4 98) p e s m args below meth c r υ H locs (F0 m 0 ls []) := by
  have hx := X.hx
  have hb := X.hb
  unfold f_Sk_seekRoomFor at hf
  refine lv_aload_n hx hb dX7_seekRoomFor_0 rfl (lv_at hl 0 rfl) ?_
  refine lv_aload hx hb dX7_seekRoomFor_1 (lv_at hl 4 rfl) ?_
  refine lv_sipush (v := 256) hx hb dX7_seekRoomFor_3 (by decide) ?_
  refine lv_sipush (v := 256) hx hb dX7_seekRoomFor_6 (by decide) ?_
  obtain ⟨r1, τ2, hc3, hf⟩ := e_b hf
  refine c_Vi X hH (k := 5) (n := 2) (As := [.int _, .int _]) (rest := [.ref (aG G 21)]) (c_La_costOf_5 l G (N := N) hc3) (by decide) rfl rfl tw_304 tw_301 tw_302 tw_303 tw_3 (by decide +kernel) ⟨by decide, by decide⟩ rfl hl.1 rfl (Nat.le_of_ble_eq_true rfl) ⟨Nat.zero_le _, Nat.zero_le _⟩ dX7_seekRoomFor_9 (fun H locs hH => ?_)
  refine lv_iconst (v := 1) hx hb dX7_seekRoomFor_12 (by decide) ?_
  refine lv_iadd hx hb dX7_seekRoomFor_13 ?_
  obtain ⟨τ4, eτ4, hf⟩ := e_l hf
  refine g_put X hH (fp_21_4 G) tw_124 rfl rfl dX7_seekRoomFor_14 (fun H locs hH => ?_)
  have hH : Hs G τ4 s H locs := by rw [eτ4]; exact hH
  refine lv_aload_n hx hb dX7_seekRoomFor_17 rfl (lv_at hl 0 rfl) ?_
  refine g_get X hH (fa_21_0 G) tw_120 dX7_seekRoomFor_18 ?_
  refine lv_aload_n hx hb dX7_seekRoomFor_21 rfl (lv_at hl 2 rfl) ?_
  refine g_getN X hH (fa_10_0 G) 38 rfl dX7_seekRoomFor_22 ?_
  refine g_getN X hH (fa_11_0 G) 22 rfl dX7_seekRoomFor_25 ?_
  obtain ⟨r5, τ6, hc7, hf⟩ := e_b hf
  refine c_Vv X hH (k := 22) (n := 1) (As := [.ref (aG G 12)]) (rest := []) (c_Ly_copyRooms_22_12 l G (N := N) hc7) (by decide) rfl rfl tw_347 tw_513 tw_345 tw_346 tw_6 (by decide +kernel) ⟨by decide, by decide⟩ rfl hl.1 rfl (Nat.le_of_ble_eq_true rfl) ⟨Nat.zero_le _, Nat.zero_le _⟩ dX7_seekRoomFor_28 (fun H locs hH => ?_)
  refine lv_aload_n hx hb dX7_seekRoomFor_31 rfl (lv_at hl 0 rfl) ?_
  refine g_get X hH (fa_21_0 G) tw_120 dX7_seekRoomFor_32 ?_
  obtain ⟨r8, τ9, hc10, hf⟩ := e_b hf
  refine c_Vi X hH (k := 22) (n := 0) (As := []) (rest := []) (c_Ly_roomCount_22 l G (N := N) hc10) (by decide) rfl rfl tw_428 tw_514 tw_426 tw_427 tw_6 (by decide +kernel) ⟨by decide, by decide⟩ rfl hl.1 rfl (Nat.le_of_ble_eq_true rfl) ⟨Nat.zero_le _, Nat.zero_le _⟩ dX7_seekRoomFor_35 (fun H locs hH => ?_)
  refine lv_istore (lv' := [(6, .int r8), (0, .ref (aG G 21)), (1, .int v1), (2, .ref (aG G 10)), (3, .ref (aG G 1)), (4, .ref (aG G 5)), (5, .ref (aG G 18))]) hx hb dX7_seekRoomFor_38 hl (by decide) rfl (fun ls hl => ?_)
  refine lv_iconst (v := (-1)) hx hb dX7_seekRoomFor_40 (by decide) ?_
  refine lv_istore (lv' := [(7, .int (-1)), (6, .int r8), (0, .ref (aG G 21)), (1, .int v1), (2, .ref (aG G 10)), (3, .ref (aG G 1)), (4, .ref (aG G 5)), (5, .ref (aG G 18))]) hx hb dX7_seekRoomFor_41 hl (by decide) rfl (fun ls hl => ?_)
  refine lv_iconst (v := 0) hx hb dX7_seekRoomFor_43 (by decide) ?_
  refine lv_istore (lv' := [(8, .int 0), (7, .int (-1)), (6, .int r8), (0, .ref (aG G 21)), (1, .int v1), (2, .ref (aG G 10)), (3, .ref (aG G 1)), (4, .ref (aG G 5)), (5, .ref (aG G 18))]) hx hb dX7_seekRoomFor_44 hl (by decide) rfl (fun ls hl => ?_)
  exact b_Sk_seekRoomFor_21_10_1_5_18_46 (N := N) X _ _ _ _ _ _ _ _ _ hH (lv_sub hl [3, 4, 6, 7, 8, 2, 1, 0] rfl) hf
theorem c_Sk_seekRoomFor_21_10_1_5_18 (l : Launch) (G : GT) {N : Nat} {τ υ : Hp} {v1 : Int32} {r : Int32} (hf : f_Sk_seekRoomFor N 21 10 1 5 18 τ v1 = some (r, υ)) : MI l G yX7_seekRoomFor cX7_seekRoomFor 9 (some .int) 4 98 [.ref (aG G 21), .int v1, .ref (aG G 10), .ref (aG G 1), .ref (aG G 5), .ref (aG G 18)] τ r υ := mk_I (by decide) (Nat.le_of_ble_eq_true rfl) (fun p e s m args below meth c X hH ls hl => b_Sk_seekRoomFor_21_10_1_5_18_0 (N := N) X hH (lv_sub hl [0, 1, 2, 3, 4, 5] rfl) hf)
