-- WP_place_0 Mo_putsIn_42 Mo_isUnlike_42 Mo_roomMany_42 Mo_place_42 WP_count_0 Mo_count_42
set_option maxHeartbeats 4000000 in
set_option maxRecDepth 100000 in
theorem b_WP_place_0_0 {l : Launch} {G : GT} {N : Nat} {p : Program} {e : Env} {s : State} {m : MethodId} {args : Array Value} {below : List Frame} {meth : Method} {c : Code} (X : Cx G p s m args meth c cX10_place 4 RX10 (some .int)) {r : Int32} {υ : Hp} {τ : Hp} {v1 v2 : Int32} {H : Heap} {locs : List Loc} {ls : Array Slot} (hH : Hs G τ s H locs) (hl : lv_has ls 4 [(0, .ref (aG G 0)), (1, .int v1), (2, .int v2)]) (hf : f_WP_place N 0 τ v1 v2 = some (r, υ)) : WI l G (rmG 5 126) p e s m args below meth c r υ H locs (F0 m 0 ls []) := by
  have hx := X.hx
  have hb := X.hb
  unfold f_WP_place at hf
  refine lv_aload_n hx hb dX10_place_0 rfl (lv_at hl 0 rfl) ?_
  refine g_get X hH (fa_0_0 G) tw_174 dX10_place_1 ?_
  refine lv_iload_n hx hb dX10_place_4 rfl (lv_at hl 1 rfl) ?_
  obtain ⟨r1, τ2, hc3, hf⟩ := e_b hf
  refine c_Vi X hH (k := 1) (n := 1) (As := [.int _]) (rest := []) (c_Nt_isHost_1 l G (N := N) hc3) (by decide) rfl rfl tw_214 tw_369 tw_212 tw_213 tw_2 (by decide +kernel) ⟨by decide, by decide⟩ rfl hl.1 rfl (Nat.le_of_ble_eq_true rfl) ⟨Nat.zero_le _, Nat.zero_le _⟩ dX10_place_5 (fun H locs hH => ?_)
  refine lv_if_eq (tgt := 44) hx hb dX10_place_8 (by decide) (fun c4 => ?_) (fun c4 => ?_)
  · have hf := e_t c4 hf
    refine lv_iconst (v := (-1)) hx hb dX10_place_44 (by decide) ?_
    exact r_i X hH hf dX10_place_45
  · have hf := e_f c4 hf
    refine lv_iload_n hx hb dX10_place_11 rfl (lv_at hl 2 rfl) ?_
    obtain ⟨r5, τ6, hc7, hf⟩ := e_b hf
    refine c_Si X hH (n := 1) (As := [.int _]) (rest := []) (c_WP_isDay l G (N := N) hc7) tw_217 tw_215 tw_216 tw_1 (by decide +kernel) ⟨by decide, by decide⟩ rfl hl.1 rfl (Nat.le_of_ble_eq_true rfl) ⟨Nat.zero_le _, Nat.zero_le _⟩ dX10_place_12 (fun H locs hH => ?_)
    refine lv_if_eq (tgt := 44) hx hb dX10_place_15 (by decide) (fun c8 => ?_) (fun c8 => ?_)
    · have hf := e_t c8 hf
      refine lv_iconst (v := (-1)) hx hb dX10_place_44 (by decide) ?_
      exact r_i X hH hf dX10_place_45
    · have hf := e_f c8 hf
      refine lv_aload_n hx hb dX10_place_18 rfl (lv_at hl 0 rfl) ?_
      refine g_get X hH (fa_0_3 G) tw_177 dX10_place_19 ?_
      refine g_getN X hH (fa_10_5 G) 47 rfl dX10_place_22 ?_
      refine lv_if_eq (tgt := 44) hx hb dX10_place_25 (by decide) (fun c9 => ?_) (fun c9 => ?_)
      · have hf := e_t c9 hf
        refine lv_iconst (v := (-1)) hx hb dX10_place_44 (by decide) ?_
        exact r_i X hH hf dX10_place_45
      · have hf := e_f c9 hf
        refine lv_aload_n hx hb dX10_place_28 rfl (lv_at hl 0 rfl) ?_
        refine g_get X hH (fa_0_3 G) tw_177 dX10_place_29 ?_
        refine g_getN X hH (fa_10_0 G) 39 rfl dX10_place_32 ?_
        refine g_getN X hH (fa_11_0 G) 25 rfl dX10_place_35 ?_
        refine lv_iload_n hx hb dX10_place_38 rfl (lv_at hl 1 rfl) ?_
        obtain ⟨g10, hf⟩ := e_g hf
        refine a_ld X hH (aa_12 G) g10 dX10_place_39 ?_
        refine lv_iconst (v := (-1)) hx hb dX10_place_40 (by decide) ?_
        refine lv_icmp_eq (tgt := 46) hx hb dX10_place_41 (by decide) (fun c11 => ?_) (fun c11 => ?_)
        · have hf := e_t c11 hf
          refine lv_aload_n hx hb dX10_place_46 rfl (lv_at hl 0 rfl) ?_
          refine g_get X hH (fa_0_4 G) tw_178 dX10_place_47 ?_
          refine lv_aload_n hx hb dX10_place_50 rfl (lv_at hl 0 rfl) ?_
          refine g_get X hH (fa_0_0 G) tw_174 dX10_place_51 ?_
          refine lv_aload_n hx hb dX10_place_54 rfl (lv_at hl 0 rfl) ?_
          refine g_get X hH (fa_0_1 G) tw_175 dX10_place_55 ?_
          refine lv_aload_n hx hb dX10_place_58 rfl (lv_at hl 0 rfl) ?_
          refine g_get X hH (fa_0_2 G) tw_176 dX10_place_59 ?_
          refine lv_iload_n hx hb dX10_place_62 rfl (lv_at hl 2 rfl) ?_
          obtain ⟨r12, τ13, hc14, hf⟩ := e_b hf
          refine c_Vv X hH (k := 18) (n := 4) (As := [.ref (aG G 1), .ref (aG G 5), .ref (aG G 6), .int _]) (rest := []) (c_Nd_take_18_1_5_6 l G (N := N) hc14) (by decide) rfl rfl tw_277 tw_274 tw_275 tw_276 tw_8 (by decide +kernel) ⟨by decide, by decide⟩ rfl hl.1 rfl (Nat.le_of_ble_eq_true rfl) ⟨Nat.zero_le _, Nat.zero_le _⟩ dX10_place_63 (fun H locs hH => ?_)
          refine lv_aload_n hx hb dX10_place_66 rfl (lv_at hl 0 rfl) ?_
          refine g_get X hH (fa_0_5 G) tw_179 dX10_place_67 ?_
          refine lv_iload_n hx hb dX10_place_70 rfl (lv_at hl 1 rfl) ?_
          refine lv_aload_n hx hb dX10_place_71 rfl (lv_at hl 0 rfl) ?_
          refine g_get X hH (fa_0_3 G) tw_177 dX10_place_72 ?_
          refine lv_aload_n hx hb dX10_place_75 rfl (lv_at hl 0 rfl) ?_
          refine g_get X hH (fa_0_0 G) tw_174 dX10_place_76 ?_
          refine lv_aload_n hx hb dX10_place_79 rfl (lv_at hl 0 rfl) ?_
          refine g_get X hH (fa_0_1 G) tw_175 dX10_place_80 ?_
          refine lv_aload_n hx hb dX10_place_83 rfl (lv_at hl 0 rfl) ?_
          refine g_get X hH (fa_0_4 G) tw_178 dX10_place_84 ?_
          obtain ⟨r15, τ16, hc17, hf⟩ := e_b hf
          refine c_Vi X hH (k := 21) (n := 5) (As := [.int _, .ref (aG G 10), .ref (aG G 1), .ref (aG G 5), .ref (aG G 18)]) (rest := []) (c_Sk_seekRoomFor_21_10_1_5_18 l G (N := N) hc17) (by decide) rfl rfl tw_512 tw_509 tw_510 tw_511 tw_9 (by decide +kernel) ⟨by decide, by decide⟩ rfl hl.1 rfl (Nat.le_of_ble_eq_true rfl) ⟨Nat.zero_le _, Nat.zero_le _⟩ dX10_place_87 (fun H locs hH => ?_)
          refine lv_istore_n (lv' := [(3, .int r15), (0, .ref (aG G 0)), (1, .int v1), (2, .int v2)]) hx hb dX10_place_90 rfl hl (by decide) rfl (fun ls hl => ?_)
          refine lv_iload_n hx hb dX10_place_91 rfl (lv_at hl 0 rfl) ?_
          refine lv_iconst (v := (-1)) hx hb dX10_place_92 (by decide) ?_
          refine lv_icmp_eq (tgt := 122) hx hb dX10_place_93 (by decide) (fun c18 => ?_) (fun c18 => ?_)
          · have hf := e_t c18 hf
            refine lv_iload_n hx hb dX10_place_122 rfl (lv_at hl 0 rfl) ?_
            exact r_i X hH hf dX10_place_123
          · have hf := e_f c18 hf
            refine lv_aload_n hx hb dX10_place_96 rfl (lv_at hl 1 rfl) ?_
            refine g_get X hH (fa_0_3 G) tw_177 dX10_place_97 ?_
            refine lv_aload_n hx hb dX10_place_100 rfl (lv_at hl 1 rfl) ?_
            refine g_get X hH (fa_0_5 G) tw_179 dX10_place_101 ?_
            refine g_getN X hH (fa_21_2 G) 48 rfl dX10_place_104 ?_
            refine lv_aload_n hx hb dX10_place_107 rfl (lv_at hl 1 rfl) ?_
            refine g_get X hH (fa_0_4 G) tw_178 dX10_place_108 ?_
            refine lv_aload_n hx hb dX10_place_111 rfl (lv_at hl 1 rfl) ?_
            refine g_get X hH (fa_0_0 G) tw_174 dX10_place_112 ?_
            refine lv_aload_n hx hb dX10_place_115 rfl (lv_at hl 1 rfl) ?_
            refine g_get X hH (fa_0_1 G) tw_175 dX10_place_116 ?_
            obtain ⟨r19, τ20, hc21, hf⟩ := e_b hf
            refine c_Vv X hH (k := 10) (n := 4) (As := [.ref (aG G 26), .ref (aG G 18), .ref (aG G 1), .ref (aG G 5)]) (rest := []) (c_Pl_settle_10_26_18_1_5 l G (N := N) hc21) (by decide) rfl rfl tw_343 tw_340 tw_341 tw_342 tw_5 (by decide +kernel) ⟨by decide, by decide⟩ rfl hl.1 rfl (Nat.le_of_ble_eq_true rfl) ⟨Nat.zero_le _, Nat.zero_le _⟩ dX10_place_119 (fun H locs hH => ?_)
            refine lv_iload_n hx hb dX10_place_122 rfl (lv_at hl 0 rfl) ?_
            exact r_i X hH hf dX10_place_123
        · have hf := e_f c11 hf
          refine lv_iconst (v := (-1)) hx hb dX10_place_44 (by decide) ?_
          exact r_i X hH hf dX10_place_45
theorem c_WP_place_0 (l : Launch) (G : GT) {N : Nat} {τ υ : Hp} {v1 v2 : Int32} {r : Int32} (hf : f_WP_place N 0 τ v1 v2 = some (r, υ)) : MI l G yX10_place cX10_place 4 (some .int) 5 126 [.ref (aG G 0), .int v1, .int v2] τ r υ := mk_I (by decide) (Nat.le_of_ble_eq_true rfl) (fun p e s m args below meth c X hH ls hl => b_WP_place_0_0 (N := N) X hH (lv_sub hl [0, 1, 2] rfl) hf)
set_option maxHeartbeats 4000000 in
set_option maxRecDepth 100000 in
theorem b_Mo_putsIn_42_2b {l : Launch} {G : GT} {N : Nat} {p : Program} {e : Env} {s : State} {m : MethodId} {args : Array Value} {below : List Frame} {meth : Method} {c : Code} (X : Cx G p s m args meth c cX11_putsIn 4 RX11 none) {r : Int32} {υ : Hp} {k2 : Hp → Int32 → Int32 → Int32 → OR} (hk2 : ∀ (τ : Hp) (v1 v2 v3 : Int32) (H : Heap) (locs : List Loc) (ls : Array Slot), Hs G τ s H locs → lv_has ls 4 [(0, .ref (aG G 42)), (1, .int v1), (2, .int v2), (3, .int v3)] → k2 τ v1 v2 v3 = some (r, υ) → WV l G (rmG 0 0) p e s m args below meth c υ H locs (F0 m 2 ls [])) {τ : Hp} {v1 v2 v3 : Int32} {H : Heap} {locs : List Loc} {ls : Array Slot} (hH : Hs G τ s H locs) (hl : lv_has ls 4 [(0, .ref (aG G 42)), (1, .int v1), (2, .int v2), (3, .int v3)]) (hf : f_Mo_putsIn_L2b N 42 k2 τ v1 v2 v3 = some (r, υ)) : WV l G (rmG 0 0) p e s m args below meth c υ H locs (F0 m 2 ls []) := by
  have hx := X.hx
  have hb := X.hb
  unfold f_Mo_putsIn_L2b at hf
  refine lv_iload_n hx hb dX11_putsIn_2 rfl (lv_at hl 3 rfl) ?_
  refine lv_bipush (v := 8) hx hb dX11_putsIn_3 (by decide) ?_
  refine lv_icmp_ge (tgt := 35) hx hb dX11_putsIn_5 (by decide) (fun c1 => ?_) (fun c1 => ?_)
  · have hf := e_t c1 hf
    exact r_v X hH hf dX11_putsIn_35
  · have hf := e_f c1 hf
    refine lv_aload_n hx hb dX11_putsIn_8 rfl (lv_at hl 0 rfl) ?_
    refine g_get X hH (fa_42_22 G) tw_548 dX11_putsIn_9 ?_
    refine lv_iload_n hx hb dX11_putsIn_12 rfl (lv_at hl 3 rfl) ?_
    refine lv_iload_n hx hb dX11_putsIn_13 rfl (lv_at hl 3 rfl) ?_
    refine lv_iload_n hx hb dX11_putsIn_14 rfl (lv_at hl 1 rfl) ?_
    refine lv_icmp_ne (tgt := 22) hx hb dX11_putsIn_15 (by decide) (fun c2 => ?_) (fun c2 => ?_)
    · have hf := e_f c2 hf
      refine lv_aload_n hx hb dX11_putsIn_22 rfl (lv_at hl 0 rfl) ?_
      refine g_get X hH (fa_42_3 G) tw_529 dX11_putsIn_23 ?_
      refine lv_iload_n hx hb dX11_putsIn_26 rfl (lv_at hl 3 rfl) ?_
      obtain ⟨g3, hf⟩ := e_g hf
      refine a_ld X hH (aa_44 G) g3 dX11_putsIn_27 ?_
      obtain ⟨g4, hf⟩ := e_g hf
      obtain ⟨τ5, eτ5, hf⟩ := e_l hf
      refine a_st X hH (aa_54 G) g4 dX11_putsIn_28 (fun H locs hH => ?_)
      have hH : Hs G τ5 s H locs := by rw [eτ5]; exact hH
      obtain ⟨x6, ex6, hf⟩ := e_l hf
      refine lv_iinc (v := x6) (lv' := [(3, .int x6), (0, .ref (aG G 42)), (1, .int v1), (2, .int v2)]) hx hb dX11_putsIn_29 hl (k := 3) rfl (by rw [ex6]; rfl) (by decide) rfl (fun ls hl => ?_)
      refine lv_goto (tgt := 2) hx hb dX11_putsIn_32 (by decide) ?_
      exact hk2 _ _ _ _ _ _ _ hH (lv_sub hl [1, 2, 3, 0] rfl) hf
    · have hf := e_t c2 hf
      refine lv_iload_n hx hb dX11_putsIn_18 rfl (lv_at hl 2 rfl) ?_
      refine lv_goto (tgt := 28) hx hb dX11_putsIn_19 (by decide) ?_
      obtain ⟨g7, hf⟩ := e_g hf
      obtain ⟨τ8, eτ8, hf⟩ := e_l hf
      refine a_st X hH (aa_54 G) g7 dX11_putsIn_28 (fun H locs hH => ?_)
      have hH : Hs G τ8 s H locs := by rw [eτ8]; exact hH
      obtain ⟨x9, ex9, hf⟩ := e_l hf
      refine lv_iinc (v := x9) (lv' := [(3, .int x9), (0, .ref (aG G 42)), (1, .int v1), (2, .int v2)]) hx hb dX11_putsIn_29 hl (k := 3) rfl (by rw [ex9]; rfl) (by decide) rfl (fun ls hl => ?_)
      refine lv_goto (tgt := 2) hx hb dX11_putsIn_32 (by decide) ?_
      exact hk2 _ _ _ _ _ _ _ hH (lv_sub hl [1, 2, 3, 0] rfl) hf
theorem b_Mo_putsIn_42_2 {l : Launch} {G : GT} {N : Nat} {p : Program} {e : Env} {s : State} {m : MethodId} {args : Array Value} {below : List Frame} {meth : Method} {c : Code} (X : Cx G p s m args meth c cX11_putsIn 4 RX11 none) {r : Int32} {υ : Hp} : ∀ (n : Nat) (τ : Hp) (v1 v2 v3 : Int32) (H : Heap) (locs : List Loc) (ls : Array Slot), Hs G τ s H locs → lv_has ls 4 [(0, .ref (aG G 42)), (1, .int v1), (2, .int v2), (3, .int v3)] → f_Mo_putsIn_L2 N 42 n τ v1 v2 v3 = some (r, υ) → WV l G (rmG 0 0) p e s m args below meth c υ H locs (F0 m 2 ls []) := by
  intro n
  induction n with
  | zero => intro τ v1 v2 v3 H locs ls hH hl hf; exact nomatch (show (none : OR) = some (r, υ) from hf)
  | succ n ih => intro τ v1 v2 v3 H locs ls hH hl hf; exact b_Mo_putsIn_42_2b (N := N) X ih hH hl hf
set_option maxHeartbeats 4000000 in
set_option maxRecDepth 100000 in
theorem b_Mo_putsIn_42_0 {l : Launch} {G : GT} {N : Nat} {p : Program} {e : Env} {s : State} {m : MethodId} {args : Array Value} {below : List Frame} {meth : Method} {c : Code} (X : Cx G p s m args meth c cX11_putsIn 4 RX11 none) {r : Int32} {υ : Hp} {τ : Hp} {v1 v2 : Int32} {H : Heap} {locs : List Loc} {ls : Array Slot} (hH : Hs G τ s H locs) (hl : lv_has ls 4 [(0, .ref (aG G 42)), (1, .int v1), (2, .int v2)]) (hf : f_Mo_putsIn N 42 τ v1 v2 = some (r, υ)) : WV l G (rmG 0 0) p e s m args below meth c υ H locs (F0 m 0 ls []) := by
  have hx := X.hx
  have hb := X.hb
  unfold f_Mo_putsIn at hf
  refine lv_iconst (v := 0) hx hb dX11_putsIn_0 (by decide) ?_
  refine lv_istore_n (lv' := [(3, .int 0), (0, .ref (aG G 42)), (1, .int v1), (2, .int v2)]) hx hb dX11_putsIn_1 rfl hl (by decide) rfl (fun ls hl => ?_)
  exact b_Mo_putsIn_42_2 (N := N) X _ _ _ _ _ _ _ _ hH (lv_sub hl [1, 2, 3, 0] rfl) hf
theorem c_Mo_putsIn_42 (l : Launch) (G : GT) {N : Nat} {τ υ : Hp} {v1 v2 : Int32} {r : Int32} (hf : f_Mo_putsIn N 42 τ v1 v2 = some (r, υ)) : MV l G yX11_putsIn cX11_putsIn 4 0 0 [.ref (aG G 42), .int v1, .int v2] τ υ := mk_V (by decide) (Nat.le_of_ble_eq_true rfl) (fun p e s m args below meth c X hH ls hl => b_Mo_putsIn_42_0 (N := N) X hH (lv_sub hl [0, 1, 2] rfl) hf)
set_option maxHeartbeats 4000000 in
set_option maxRecDepth 100000 in
theorem b_Mo_isUnlike_42_2b {l : Launch} {G : GT} {N : Nat} {p : Program} {e : Env} {s : State} {m : MethodId} {args : Array Value} {below : List Frame} {meth : Method} {c : Code} (X : Cx G p s m args meth c cX11_isUnlike 4 RX11 (some .boolean)) {r : Int32} {υ : Hp} {k2 : Hp → Int32 → Int32 → Int32 → OR} (hk2 : ∀ (τ : Hp) (v1 v2 v3 : Int32) (H : Heap) (locs : List Loc) (ls : Array Slot), Hs G τ s H locs → lv_has ls 4 [(0, .ref (aG G 42)), (1, .int v1), (2, .int v2), (3, .int v3)] → k2 τ v1 v2 v3 = some (r, υ) → WI l G (rmG 0 0) p e s m args below meth c r υ H locs (F0 m 2 ls [])) {τ : Hp} {v1 v2 v3 : Int32} {H : Heap} {locs : List Loc} {ls : Array Slot} (hH : Hs G τ s H locs) (hl : lv_has ls 4 [(0, .ref (aG G 42)), (1, .int v1), (2, .int v2), (3, .int v3)]) (hf : f_Mo_isUnlike_L2b N 42 k2 τ v1 v2 v3 = some (r, υ)) : WI l G (rmG 0 0) p e s m args below meth c r υ H locs (F0 m 2 ls []) := by
  have hx := X.hx
  have hb := X.hb
  unfold f_Mo_isUnlike_L2b at hf
  refine lv_iload_n hx hb dX11_isUnlike_2 rfl (lv_at hl 3 rfl) ?_
  refine lv_aload_n hx hb dX11_isUnlike_3 rfl (lv_at hl 0 rfl) ?_
  refine g_get X hH (fa_42_1 G) tw_527 dX11_isUnlike_4 ?_
  refine lv_icmp_ge (tgt := 48) hx hb dX11_isUnlike_7 (by decide) (fun c1 => ?_) (fun c1 => ?_)
  · have hf := e_t c1 hf
    refine lv_iconst (v := 0) hx hb dX11_isUnlike_48 (by decide) ?_
    exact r_z X hH rfl hf dX11_isUnlike_49
  · have hf := e_f c1 hf
    refine lv_iload_n hx hb dX11_isUnlike_10 rfl (lv_at hl 3 rfl) ?_
    refine lv_iload_n hx hb dX11_isUnlike_11 rfl (lv_at hl 1 rfl) ?_
    refine lv_icmp_eq (tgt := 42) hx hb dX11_isUnlike_12 (by decide) (fun c2 => ?_) (fun c2 => ?_)
    · have hf := e_t c2 hf
      obtain ⟨x3, ex3, hf⟩ := e_l hf
      refine lv_iinc (v := x3) (lv' := [(3, .int x3), (0, .ref (aG G 42)), (1, .int v1), (2, .int v2)]) hx hb dX11_isUnlike_42 hl (k := 3) rfl (by rw [ex3]; rfl) (by decide) rfl (fun ls hl => ?_)
      refine lv_goto (tgt := 2) hx hb dX11_isUnlike_45 (by decide) ?_
      exact hk2 _ _ _ _ _ _ _ hH (lv_sub hl [1, 2, 3, 0] rfl) hf
    · have hf := e_f c2 hf
      refine lv_aload_n hx hb dX11_isUnlike_15 rfl (lv_at hl 0 rfl) ?_
      refine g_get X hH (fa_42_3 G) tw_529 dX11_isUnlike_16 ?_
      refine lv_iload_n hx hb dX11_isUnlike_19 rfl (lv_at hl 3 rfl) ?_
      obtain ⟨g4, hf⟩ := e_g hf
      refine a_ld X hH (aa_44 G) g4 dX11_isUnlike_20 ?_
      refine lv_iload_n hx hb dX11_isUnlike_21 rfl (lv_at hl 2 rfl) ?_
      refine lv_icmp_ne (tgt := 42) hx hb dX11_isUnlike_22 (by decide) (fun c5 => ?_) (fun c5 => ?_)
      · have hf := e_f c5 hf
        obtain ⟨x6, ex6, hf⟩ := e_l hf
        refine lv_iinc (v := x6) (lv' := [(3, .int x6), (0, .ref (aG G 42)), (1, .int v1), (2, .int v2)]) hx hb dX11_isUnlike_42 hl (k := 3) rfl (by rw [ex6]; rfl) (by decide) rfl (fun ls hl => ?_)
        refine lv_goto (tgt := 2) hx hb dX11_isUnlike_45 (by decide) ?_
        exact hk2 _ _ _ _ _ _ _ hH (lv_sub hl [1, 2, 3, 0] rfl) hf
      · have hf := e_t c5 hf
        refine lv_aload_n hx hb dX11_isUnlike_25 rfl (lv_at hl 0 rfl) ?_
        refine g_get X hH (fa_42_2 G) tw_528 dX11_isUnlike_26 ?_
        refine lv_iload_n hx hb dX11_isUnlike_29 rfl (lv_at hl 3 rfl) ?_
        obtain ⟨g7, hf⟩ := e_g hf
        refine a_ld X hH (aa_43 G) g7 dX11_isUnlike_30 ?_
        refine lv_aload_n hx hb dX11_isUnlike_31 rfl (lv_at hl 0 rfl) ?_
        refine g_get X hH (fa_42_2 G) tw_528 dX11_isUnlike_32 ?_
        refine lv_iload_n hx hb dX11_isUnlike_35 rfl (lv_at hl 1 rfl) ?_
        obtain ⟨g8, hf⟩ := e_g hf
        refine a_ld X hH (aa_43 G) g8 dX11_isUnlike_36 ?_
        refine lv_icmp_eq (tgt := 42) hx hb dX11_isUnlike_37 (by decide) (fun c9 => ?_) (fun c9 => ?_)
        · have hf := e_t c9 hf
          obtain ⟨x10, ex10, hf⟩ := e_l hf
          refine lv_iinc (v := x10) (lv' := [(3, .int x10), (0, .ref (aG G 42)), (1, .int v1), (2, .int v2)]) hx hb dX11_isUnlike_42 hl (k := 3) rfl (by rw [ex10]; rfl) (by decide) rfl (fun ls hl => ?_)
          refine lv_goto (tgt := 2) hx hb dX11_isUnlike_45 (by decide) ?_
          exact hk2 _ _ _ _ _ _ _ hH (lv_sub hl [1, 2, 3, 0] rfl) hf
        · have hf := e_f c9 hf
          refine lv_iconst (v := 1) hx hb dX11_isUnlike_40 (by decide) ?_
          exact r_z X hH rfl hf dX11_isUnlike_41
theorem b_Mo_isUnlike_42_2 {l : Launch} {G : GT} {N : Nat} {p : Program} {e : Env} {s : State} {m : MethodId} {args : Array Value} {below : List Frame} {meth : Method} {c : Code} (X : Cx G p s m args meth c cX11_isUnlike 4 RX11 (some .boolean)) {r : Int32} {υ : Hp} : ∀ (n : Nat) (τ : Hp) (v1 v2 v3 : Int32) (H : Heap) (locs : List Loc) (ls : Array Slot), Hs G τ s H locs → lv_has ls 4 [(0, .ref (aG G 42)), (1, .int v1), (2, .int v2), (3, .int v3)] → f_Mo_isUnlike_L2 N 42 n τ v1 v2 v3 = some (r, υ) → WI l G (rmG 0 0) p e s m args below meth c r υ H locs (F0 m 2 ls []) := by
  intro n
  induction n with
  | zero => intro τ v1 v2 v3 H locs ls hH hl hf; exact nomatch (show (none : OR) = some (r, υ) from hf)
  | succ n ih => intro τ v1 v2 v3 H locs ls hH hl hf; exact b_Mo_isUnlike_42_2b (N := N) X ih hH hl hf
set_option maxHeartbeats 4000000 in
set_option maxRecDepth 100000 in
theorem b_Mo_isUnlike_42_0 {l : Launch} {G : GT} {N : Nat} {p : Program} {e : Env} {s : State} {m : MethodId} {args : Array Value} {below : List Frame} {meth : Method} {c : Code} (X : Cx G p s m args meth c cX11_isUnlike 4 RX11 (some .boolean)) {r : Int32} {υ : Hp} {τ : Hp} {v1 v2 : Int32} {H : Heap} {locs : List Loc} {ls : Array Slot} (hH : Hs G τ s H locs) (hl : lv_has ls 4 [(0, .ref (aG G 42)), (1, .int v1), (2, .int v2)]) (hf : f_Mo_isUnlike N 42 τ v1 v2 = some (r, υ)) : WI l G (rmG 0 0) p e s m args below meth c r υ H locs (F0 m 0 ls []) := by
  have hx := X.hx
  have hb := X.hb
  unfold f_Mo_isUnlike at hf
  refine lv_iconst (v := 0) hx hb dX11_isUnlike_0 (by decide) ?_
  refine lv_istore_n (lv' := [(3, .int 0), (0, .ref (aG G 42)), (1, .int v1), (2, .int v2)]) hx hb dX11_isUnlike_1 rfl hl (by decide) rfl (fun ls hl => ?_)
  exact b_Mo_isUnlike_42_2 (N := N) X _ _ _ _ _ _ _ _ hH (lv_sub hl [1, 2, 3, 0] rfl) hf
theorem c_Mo_isUnlike_42 (l : Launch) (G : GT) {N : Nat} {τ υ : Hp} {v1 v2 : Int32} {r : Int32} (hf : f_Mo_isUnlike N 42 τ v1 v2 = some (r, υ)) : MI l G yX11_isUnlike cX11_isUnlike 4 (some .boolean) 0 0 [.ref (aG G 42), .int v1, .int v2] τ r υ := mk_I (by decide) (Nat.le_of_ble_eq_true rfl) (fun p e s m args below meth c X hH ls hl => b_Mo_isUnlike_42_0 (N := N) X hH (lv_sub hl [0, 1, 2] rfl) hf)
set_option maxHeartbeats 4000000 in
set_option maxRecDepth 100000 in
theorem b_Mo_roomMany_42_4b {l : Launch} {G : GT} {N : Nat} {p : Program} {e : Env} {s : State} {m : MethodId} {args : Array Value} {below : List Frame} {meth : Method} {c : Code} (X : Cx G p s m args meth c cX11_roomMany 3 RX11 (some .int)) {r : Int32} {υ : Hp} {k4 : Hp → Int32 → Int32 → OR} (hk4 : ∀ (τ : Hp) (v1 v2 : Int32) (H : Heap) (locs : List Loc) (ls : Array Slot), Hs G τ s H locs → lv_has ls 3 [(0, .ref (aG G 42)), (1, .int v1), (2, .int v2)] → k4 τ v1 v2 = some (r, υ) → WI l G (rmG 1 21) p e s m args below meth c r υ H locs (F0 m 4 ls [])) {τ : Hp} {v1 v2 : Int32} {H : Heap} {locs : List Loc} {ls : Array Slot} (hH : Hs G τ s H locs) (hl : lv_has ls 3 [(0, .ref (aG G 42)), (1, .int v1), (2, .int v2)]) (hf : f_Mo_roomMany_L4b N 42 k4 τ v1 v2 = some (r, υ)) : WI l G (rmG 1 21) p e s m args below meth c r υ H locs (F0 m 4 ls []) := by
  have hx := X.hx
  have hb := X.hb
  unfold f_Mo_roomMany_L4b at hf
  refine lv_iload_n hx hb dX11_roomMany_4 rfl (lv_at hl 2 rfl) ?_
  refine lv_bipush (v := 8) hx hb dX11_roomMany_5 (by decide) ?_
  refine lv_icmp_ge (tgt := 29) hx hb dX11_roomMany_7 (by decide) (fun c1 => ?_) (fun c1 => ?_)
  · have hf := e_t c1 hf
    refine lv_iload_n hx hb dX11_roomMany_29 rfl (lv_at hl 1 rfl) ?_
    exact r_i X hH hf dX11_roomMany_30
  · have hf := e_f c1 hf
    refine lv_iload_n hx hb dX11_roomMany_10 rfl (lv_at hl 1 rfl) ?_
    refine lv_aload_n hx hb dX11_roomMany_11 rfl (lv_at hl 0 rfl) ?_
    refine g_get X hH (fa_42_3 G) tw_529 dX11_roomMany_12 ?_
    refine lv_iload_n hx hb dX11_roomMany_15 rfl (lv_at hl 2 rfl) ?_
    obtain ⟨g2, hf⟩ := e_g hf
    refine a_ld X hH (aa_44 G) g2 dX11_roomMany_16 ?_
    refine lv_iconst (v := 1) hx hb dX11_roomMany_17 (by decide) ?_
    refine lv_iadd hx hb dX11_roomMany_18 ?_
    refine g_max X hl.1.symm tw_674 tw_338 tw_16 tw_339 (by decide) (Nat.le_of_ble_eq_true rfl) ⟨Nat.zero_le _, Nat.zero_le _⟩ dX11_roomMany_19 ?_
    obtain ⟨x3, ex3, hf⟩ := e_l hf
    refine g_nm ex3 ?_
    refine lv_istore_n (lv' := [(1, .int x3), (0, .ref (aG G 42)), (2, .int v2)]) hx hb dX11_roomMany_22 rfl hl (by decide) rfl (fun ls hl => ?_)
    obtain ⟨x4, ex4, hf⟩ := e_l hf
    refine lv_iinc (v := x4) (lv' := [(2, .int x4), (1, .int x3), (0, .ref (aG G 42))]) hx hb dX11_roomMany_23 hl (k := 2) rfl (by rw [ex4]; rfl) (by decide) rfl (fun ls hl => ?_)
    refine lv_goto (tgt := 4) hx hb dX11_roomMany_26 (by decide) ?_
    exact hk4 _ _ _ _ _ _ hH (lv_sub hl [2, 1, 0] rfl) hf
theorem b_Mo_roomMany_42_4 {l : Launch} {G : GT} {N : Nat} {p : Program} {e : Env} {s : State} {m : MethodId} {args : Array Value} {below : List Frame} {meth : Method} {c : Code} (X : Cx G p s m args meth c cX11_roomMany 3 RX11 (some .int)) {r : Int32} {υ : Hp} : ∀ (n : Nat) (τ : Hp) (v1 v2 : Int32) (H : Heap) (locs : List Loc) (ls : Array Slot), Hs G τ s H locs → lv_has ls 3 [(0, .ref (aG G 42)), (1, .int v1), (2, .int v2)] → f_Mo_roomMany_L4 N 42 n τ v1 v2 = some (r, υ) → WI l G (rmG 1 21) p e s m args below meth c r υ H locs (F0 m 4 ls []) := by
  intro n
  induction n with
  | zero => intro τ v1 v2 H locs ls hH hl hf; exact nomatch (show (none : OR) = some (r, υ) from hf)
  | succ n ih => intro τ v1 v2 H locs ls hH hl hf; exact b_Mo_roomMany_42_4b (N := N) X ih hH hl hf
set_option maxHeartbeats 4000000 in
set_option maxRecDepth 100000 in
theorem b_Mo_roomMany_42_0 {l : Launch} {G : GT} {N : Nat} {p : Program} {e : Env} {s : State} {m : MethodId} {args : Array Value} {below : List Frame} {meth : Method} {c : Code} (X : Cx G p s m args meth c cX11_roomMany 3 RX11 (some .int)) {r : Int32} {υ : Hp} {τ : Hp} {H : Heap} {locs : List Loc} {ls : Array Slot} (hH : Hs G τ s H locs) (hl : lv_has ls 3 [(0, .ref (aG G 42))]) (hf : f_Mo_roomMany N 42 τ = some (r, υ)) : WI l G (rmG 1 21) p e s m args below meth c r υ H locs (F0 m 0 ls []) := by
  have hx := X.hx
  have hb := X.hb
  unfold f_Mo_roomMany at hf
  refine lv_iconst (v := 0) hx hb dX11_roomMany_0 (by decide) ?_
  refine lv_istore_n (lv' := [(1, .int 0), (0, .ref (aG G 42))]) hx hb dX11_roomMany_1 rfl hl (by decide) rfl (fun ls hl => ?_)
  refine lv_iconst (v := 0) hx hb dX11_roomMany_2 (by decide) ?_
  refine lv_istore_n (lv' := [(2, .int 0), (1, .int 0), (0, .ref (aG G 42))]) hx hb dX11_roomMany_3 rfl hl (by decide) rfl (fun ls hl => ?_)
  exact b_Mo_roomMany_42_4 (N := N) X _ _ _ _ _ _ _ hH (lv_sub hl [2, 1, 0] rfl) hf
theorem c_Mo_roomMany_42 (l : Launch) (G : GT) {N : Nat} {τ υ : Hp} {r : Int32} (hf : f_Mo_roomMany N 42 τ = some (r, υ)) : MI l G yX11_roomMany cX11_roomMany 3 (some .int) 1 21 [.ref (aG G 42)] τ r υ := mk_I (by decide) (Nat.le_of_ble_eq_true rfl) (fun p e s m args below meth c X hH ls hl => b_Mo_roomMany_42_0 (N := N) X hH (lv_sub hl [0] rfl) hf)
set_option maxHeartbeats 4000000 in
set_option maxRecDepth 100000 in
theorem b_Mo_place_42_98 {l : Launch} {G : GT} {N : Nat} {p : Program} {e : Env} {s : State} {m : MethodId} {args : Array Value} {below : List Frame} {meth : Method} {c : Code} (X : Cx G p s m args meth c cX11_place 8 RX11 (some .int)) {r : Int32} {υ : Hp} {k58 : Hp → Int32 → Int32 → Int32 → Int32 → Int32 → OR} (hk58 : ∀ (τ : Hp) (v1 v3 v4 v5 v6 : Int32) (H : Heap) (locs : List Loc) (ls : Array Slot), Hs G τ s H locs → lv_has ls 8 [(0, .ref (aG G 42)), (1, .int v1), (3, .int v3), (4, .int v4), (5, .int v5), (6, .int v6)] → k58 τ v1 v3 v4 v5 v6 = some (r, υ) → WI l G (rmG 4 88) p e s m args below meth c r υ H locs (F0 m 58 ls [])) {τ : Hp} {v1 v3 v4 v5 v6 : Int32} {H : Heap} {locs : List Loc} {ls : Array Slot} (hH : Hs G τ s H locs) (hl : lv_has ls 8 [(0, .ref (aG G 42)), (1, .int v1), (3, .int v3), (4, .int v4), (5, .int v5), (6, .int v6)]) (hf : f_Mo_place_J98 N 42 k58 τ v1 v3 v4 v5 v6 = some (r, υ)) : WI l G (rmG 4 88) p e s m args below meth c r υ H locs (F0 m 98 ls []) := by
  have hx := X.hx
  have hb := X.hb
  unfold f_Mo_place_J98 at hf
  refine lv_aload_n hx hb dX11_place_98 rfl (lv_at hl 0 rfl) ?_
  obtain ⟨r1, τ2, hc3, hf⟩ := e_b hf
  refine c_Vi X hH (k := 42) (n := 0) (As := []) (rest := []) (c_Mo_costs_42 l G (N := N) hc3) (by decide) rfl rfl tw_664 tw_662 tw_663 tw_775 tw_13 (by decide +kernel) ⟨by decide, by decide⟩ rfl hl.1 rfl (Nat.le_of_ble_eq_true rfl) ⟨Nat.zero_le _, Nat.zero_le _⟩ dX11_place_99 (fun H locs hH => ?_)
  refine lv_istore (lv' := [(7, .int r1), (0, .ref (aG G 42)), (1, .int v1), (3, .int v3), (4, .int v4), (5, .int v5), (6, .int v6)]) hx hb dX11_place_102 hl (by decide) rfl (fun ls hl => ?_)
  refine lv_iload hx hb dX11_place_104 (lv_at hl 0 rfl) ?_
  refine lv_iconst (v := (-1)) hx hb dX11_place_106 (by decide) ?_
  refine lv_icmp_eq (tgt := 134) hx hb dX11_place_107 (by decide) (fun c4 => ?_) (fun c4 => ?_)
  · have hf := e_t c4 hf
    obtain ⟨x5, ex5, hf⟩ := e_l hf
    refine lv_iinc (v := x5) (lv' := [(6, .int x5), (7, .int r1), (0, .ref (aG G 42)), (1, .int v1), (3, .int v3), (4, .int v4), (5, .int v5)]) hx hb dX11_place_134 hl (k := 6) rfl (by rw [ex5]; rfl) (by decide) rfl (fun ls hl => ?_)
    refine lv_goto (tgt := 58) hx hb dX11_place_137 (by decide) ?_
    exact hk58 _ _ _ _ _ _ _ _ _ hH (lv_sub hl [2, 3, 4, 5, 6, 0] rfl) hf
  · have hf := e_f c4 hf
    refine lv_iload hx hb dX11_place_110 (lv_at hl 4 rfl) ?_
    refine lv_iconst (v := (-1)) hx hb dX11_place_112 (by decide) ?_
    refine lv_icmp_eq (tgt := 126) hx hb dX11_place_113 (by decide) (fun c6 => ?_) (fun c6 => ?_)
    · have hf := e_t c6 hf
      refine lv_iload hx hb dX11_place_126 (lv_at hl 0 rfl) ?_
      refine lv_istore (lv' := [(4, .int r1), (7, .int r1), (0, .ref (aG G 42)), (1, .int v1), (3, .int v3), (5, .int v5), (6, .int v6)]) hx hb dX11_place_128 hl (by decide) rfl (fun ls hl => ?_)
      refine lv_iload hx hb dX11_place_130 (lv_at hl 6 rfl) ?_
      refine lv_istore (lv' := [(5, .int v6), (4, .int r1), (7, .int r1), (0, .ref (aG G 42)), (1, .int v1), (3, .int v3), (6, .int v6)]) hx hb dX11_place_132 hl (by decide) rfl (fun ls hl => ?_)
      obtain ⟨x7, ex7, hf⟩ := e_l hf
      refine lv_iinc (v := x7) (lv' := [(6, .int x7), (5, .int v6), (4, .int r1), (7, .int r1), (0, .ref (aG G 42)), (1, .int v1), (3, .int v3)]) hx hb dX11_place_134 hl (k := 6) rfl (by rw [ex7]; rfl) (by decide) rfl (fun ls hl => ?_)
      refine lv_goto (tgt := 58) hx hb dX11_place_137 (by decide) ?_
      exact hk58 _ _ _ _ _ _ _ _ _ hH (lv_sub hl [4, 5, 6, 2, 1, 0] rfl) hf
    · have hf := e_f c6 hf
      refine lv_iload hx hb dX11_place_116 (lv_at hl 0 rfl) ?_
      refine lv_iload hx hb dX11_place_118 (lv_at hl 4 rfl) ?_
      refine lv_icmp_lt (tgt := 126) hx hb dX11_place_120 (by decide) (fun c8 => ?_) (fun c8 => ?_)
      · have hf := e_t c8 hf
        refine lv_iload hx hb dX11_place_126 (lv_at hl 0 rfl) ?_
        refine lv_istore (lv' := [(4, .int r1), (7, .int r1), (0, .ref (aG G 42)), (1, .int v1), (3, .int v3), (5, .int v5), (6, .int v6)]) hx hb dX11_place_128 hl (by decide) rfl (fun ls hl => ?_)
        refine lv_iload hx hb dX11_place_130 (lv_at hl 6 rfl) ?_
        refine lv_istore (lv' := [(5, .int v6), (4, .int r1), (7, .int r1), (0, .ref (aG G 42)), (1, .int v1), (3, .int v3), (6, .int v6)]) hx hb dX11_place_132 hl (by decide) rfl (fun ls hl => ?_)
        obtain ⟨x9, ex9, hf⟩ := e_l hf
        refine lv_iinc (v := x9) (lv' := [(6, .int x9), (5, .int v6), (4, .int r1), (7, .int r1), (0, .ref (aG G 42)), (1, .int v1), (3, .int v3)]) hx hb dX11_place_134 hl (k := 6) rfl (by rw [ex9]; rfl) (by decide) rfl (fun ls hl => ?_)
        refine lv_goto (tgt := 58) hx hb dX11_place_137 (by decide) ?_
        exact hk58 _ _ _ _ _ _ _ _ _ hH (lv_sub hl [4, 5, 6, 2, 1, 0] rfl) hf
      · have hf := e_f c8 hf
        refine lv_goto (tgt := 134) hx hb dX11_place_123 (by decide) ?_
        obtain ⟨x10, ex10, hf⟩ := e_l hf
        refine lv_iinc (v := x10) (lv' := [(6, .int x10), (7, .int r1), (0, .ref (aG G 42)), (1, .int v1), (3, .int v3), (4, .int v4), (5, .int v5)]) hx hb dX11_place_134 hl (k := 6) rfl (by rw [ex10]; rfl) (by decide) rfl (fun ls hl => ?_)
        refine lv_goto (tgt := 58) hx hb dX11_place_137 (by decide) ?_
        exact hk58 _ _ _ _ _ _ _ _ _ hH (lv_sub hl [2, 3, 4, 5, 6, 0] rfl) hf
set_option maxHeartbeats 4000000 in
set_option maxRecDepth 100000 in
theorem b_Mo_place_42_140 {l : Launch} {G : GT} {N : Nat} {p : Program} {e : Env} {s : State} {m : MethodId} {args : Array Value} {below : List Frame} {meth : Method} {c : Code} (X : Cx G p s m args meth c cX11_place 8 RX11 (some .int)) {r : Int32} {υ : Hp} {τ : Hp} {v1 v5 : Int32} {H : Heap} {locs : List Loc} {ls : Array Slot} (hH : Hs G τ s H locs) (hl : lv_has ls 8 [(0, .ref (aG G 42)), (1, .int v1), (5, .int v5)]) (hf : f_Mo_place_J140 N 42 τ v1 v5 = some (r, υ)) : WI l G (rmG 4 88) p e s m args below meth c r υ H locs (F0 m 140 ls []) := by
  have hx := X.hx
  have hb := X.hb
  unfold f_Mo_place_J140 at hf
  refine lv_iload hx hb dX11_place_140 (lv_at hl 2 rfl) ?_
  refine lv_iconst (v := (-1)) hx hb dX11_place_142 (by decide) ?_
  refine lv_icmp_ne (tgt := 148) hx hb dX11_place_143 (by decide) (fun c1 => ?_) (fun c1 => ?_)
  · have hf := e_f c1 hf
    refine lv_aload_n hx hb dX11_place_148 rfl (lv_at hl 0 rfl) ?_
    refine lv_iload_n hx hb dX11_place_149 rfl (lv_at hl 1 rfl) ?_
    refine lv_iload hx hb dX11_place_150 (lv_at hl 2 rfl) ?_
    obtain ⟨r2, τ3, hc4, hf⟩ := e_b hf
    refine c_Vv X hH (k := 42) (n := 2) (As := [.int _, .int _]) (rest := []) (c_Mo_putsIn_42 l G (N := N) hc4) (by decide) rfl rfl tw_747 tw_745 tw_746 tw_789 tw_13 (by decide +kernel) ⟨by decide, by decide⟩ rfl hl.1 rfl (Nat.le_of_ble_eq_true rfl) ⟨Nat.zero_le _, Nat.zero_le _⟩ dX11_place_152 (fun H locs hH => ?_)
    refine lv_aload_n hx hb dX11_place_155 rfl (lv_at hl 0 rfl) ?_
    refine lv_aload_n hx hb dX11_place_156 rfl (lv_at hl 0 rfl) ?_
    obtain ⟨r5, τ6, hc7, hf⟩ := e_b hf
    refine c_Vi X hH (k := 42) (n := 0) (As := []) (rest := [.ref (aG G 42)]) (c_Mo_costs_42 l G (N := N) hc7) (by decide) rfl rfl tw_664 tw_662 tw_663 tw_775 tw_13 (by decide +kernel) ⟨by decide, by decide⟩ rfl hl.1 rfl (Nat.le_of_ble_eq_true rfl) ⟨Nat.zero_le _, Nat.zero_le _⟩ dX11_place_157 (fun H locs hH => ?_)
    obtain ⟨r8, τ9, hc10, hf⟩ := e_b hf
    refine c_Vv X hH (k := 42) (n := 1) (As := [.int _]) (rest := []) (c_Mo_comes_42 l G (N := N) hc10) (by decide) rfl rfl tw_677 tw_675 tw_676 tw_779 tw_13 (by decide +kernel) ⟨by decide, by decide⟩ rfl hl.1 rfl (Nat.le_of_ble_eq_true rfl) ⟨Nat.zero_le _, Nat.zero_le _⟩ dX11_place_160 (fun H locs hH => ?_)
    refine lv_iload hx hb dX11_place_163 (lv_at hl 2 rfl) ?_
    exact r_i X hH hf dX11_place_165
  · have hf := e_t c1 hf
    refine lv_iconst (v := (-1)) hx hb dX11_place_146 (by decide) ?_
    exact r_i X hH hf dX11_place_147
set_option maxHeartbeats 4000000 in
set_option maxRecDepth 100000 in
theorem b_Mo_place_42_58b {l : Launch} {G : GT} {N : Nat} {p : Program} {e : Env} {s : State} {m : MethodId} {args : Array Value} {below : List Frame} {meth : Method} {c : Code} (X : Cx G p s m args meth c cX11_place 8 RX11 (some .int)) {r : Int32} {υ : Hp} {k58 : Hp → Int32 → Int32 → Int32 → Int32 → Int32 → OR} (hk58 : ∀ (τ : Hp) (v1 v3 v4 v5 v6 : Int32) (H : Heap) (locs : List Loc) (ls : Array Slot), Hs G τ s H locs → lv_has ls 8 [(0, .ref (aG G 42)), (1, .int v1), (3, .int v3), (4, .int v4), (5, .int v5), (6, .int v6)] → k58 τ v1 v3 v4 v5 v6 = some (r, υ) → WI l G (rmG 4 88) p e s m args below meth c r υ H locs (F0 m 58 ls [])) {τ : Hp} {v1 v3 v4 v5 v6 : Int32} {H : Heap} {locs : List Loc} {ls : Array Slot} (hH : Hs G τ s H locs) (hl : lv_has ls 8 [(0, .ref (aG G 42)), (1, .int v1), (3, .int v3), (4, .int v4), (5, .int v5), (6, .int v6)]) (hf : f_Mo_place_L58b N 42 k58 τ v1 v3 v4 v5 v6 = some (r, υ)) : WI l G (rmG 4 88) p e s m args below meth c r υ H locs (F0 m 58 ls []) := by
  have hx := X.hx
  have hb := X.hb
  unfold f_Mo_place_L58b at hf
  refine lv_iload hx hb dX11_place_58 (lv_at hl 5 rfl) ?_
  refine lv_iload_n hx hb dX11_place_60 rfl (lv_at hl 2 rfl) ?_
  refine lv_icmp_gt (tgt := 140) hx hb dX11_place_61 (by decide) (fun c1 => ?_) (fun c1 => ?_)
  · have hf := e_t c1 hf
    exact b_Mo_place_42_140 (N := N) X hH (lv_sub hl [0, 1, 4] rfl) hf
  · have hf := e_f c1 hf
    refine lv_iload hx hb dX11_place_64 (lv_at hl 5 rfl) ?_
    refine lv_bipush (v := 8) hx hb dX11_place_66 (by decide) ?_
    refine lv_icmp_ge (tgt := 140) hx hb dX11_place_68 (by decide) (fun c2 => ?_) (fun c2 => ?_)
    · have hf := e_t c2 hf
      exact b_Mo_place_42_140 (N := N) X hH (lv_sub hl [0, 1, 4] rfl) hf
    · have hf := e_f c2 hf
      refine lv_aload_n hx hb dX11_place_71 rfl (lv_at hl 0 rfl) ?_
      refine lv_iload_n hx hb dX11_place_72 rfl (lv_at hl 1 rfl) ?_
      refine lv_iload hx hb dX11_place_73 (lv_at hl 5 rfl) ?_
      obtain ⟨r3, τ4, hc5, hf⟩ := e_b hf
      refine c_Vv X hH (k := 42) (n := 2) (As := [.int _, .int _]) (rest := []) (c_Mo_putsIn_42 l G (N := N) hc5) (by decide) rfl rfl tw_747 tw_745 tw_746 tw_789 tw_13 (by decide +kernel) ⟨by decide, by decide⟩ rfl hl.1 rfl (Nat.le_of_ble_eq_true rfl) ⟨Nat.zero_le _, Nat.zero_le _⟩ dX11_place_75 (fun H locs hH => ?_)
      refine lv_aload_n hx hb dX11_place_78 rfl (lv_at hl 0 rfl) ?_
      refine g_get X hH (fa_42_12 G) tw_538 dX11_place_79 ?_
      refine lv_if_eq (tgt := 98) hx hb dX11_place_82 (by decide) (fun c6 => ?_) (fun c6 => ?_)
      · have hf := e_t c6 hf
        exact b_Mo_place_42_98 (N := N) X hk58 hH (lv_sub hl [0, 1, 2, 3, 4, 5] rfl) hf
      · have hf := e_f c6 hf
        refine lv_aload_n hx hb dX11_place_85 rfl (lv_at hl 0 rfl) ?_
        refine lv_iload_n hx hb dX11_place_86 rfl (lv_at hl 1 rfl) ?_
        refine lv_iload hx hb dX11_place_87 (lv_at hl 5 rfl) ?_
        obtain ⟨r7, τ8, hc9, hf⟩ := e_b hf
        refine c_Vi X hH (k := 42) (n := 2) (As := [.int _, .int _]) (rest := []) (c_Mo_isUnlike_42 l G (N := N) hc9) (by decide) rfl rfl tw_750 tw_748 tw_749 tw_790 tw_13 (by decide +kernel) ⟨by decide, by decide⟩ rfl hl.1 rfl (Nat.le_of_ble_eq_true rfl) ⟨Nat.zero_le _, Nat.zero_le _⟩ dX11_place_89 (fun H locs hH => ?_)
        refine lv_if_eq (tgt := 98) hx hb dX11_place_92 (by decide) (fun c10 => ?_) (fun c10 => ?_)
        · have hf := e_t c10 hf
          exact b_Mo_place_42_98 (N := N) X hk58 hH (lv_sub hl [0, 1, 2, 3, 4, 5] rfl) hf
        · have hf := e_f c10 hf
          refine lv_goto (tgt := 134) hx hb dX11_place_95 (by decide) ?_
          obtain ⟨x11, ex11, hf⟩ := e_l hf
          refine lv_iinc (v := x11) (lv' := [(6, .int x11), (0, .ref (aG G 42)), (1, .int v1), (3, .int v3), (4, .int v4), (5, .int v5)]) hx hb dX11_place_134 hl (k := 5) rfl (by rw [ex11]; rfl) (by decide) rfl (fun ls hl => ?_)
          refine lv_goto (tgt := 58) hx hb dX11_place_137 (by decide) ?_
          exact hk58 _ _ _ _ _ _ _ _ _ hH (lv_sub hl [1, 2, 3, 4, 5, 0] rfl) hf
theorem b_Mo_place_42_58 {l : Launch} {G : GT} {N : Nat} {p : Program} {e : Env} {s : State} {m : MethodId} {args : Array Value} {below : List Frame} {meth : Method} {c : Code} (X : Cx G p s m args meth c cX11_place 8 RX11 (some .int)) {r : Int32} {υ : Hp} : ∀ (n : Nat) (τ : Hp) (v1 v3 v4 v5 v6 : Int32) (H : Heap) (locs : List Loc) (ls : Array Slot), Hs G τ s H locs → lv_has ls 8 [(0, .ref (aG G 42)), (1, .int v1), (3, .int v3), (4, .int v4), (5, .int v5), (6, .int v6)] → f_Mo_place_L58 N 42 n τ v1 v3 v4 v5 v6 = some (r, υ) → WI l G (rmG 4 88) p e s m args below meth c r υ H locs (F0 m 58 ls []) := by
  intro n
  induction n with
  | zero => intro τ v1 v3 v4 v5 v6 H locs ls hH hl hf; exact nomatch (show (none : OR) = some (r, υ) from hf)
  | succ n ih => intro τ v1 v3 v4 v5 v6 H locs ls hH hl hf; exact b_Mo_place_42_58b (N := N) X ih hH hl hf
set_option maxHeartbeats 4000000 in
set_option maxRecDepth 100000 in
theorem b_Mo_place_42_0 {l : Launch} {G : GT} {N : Nat} {p : Program} {e : Env} {s : State} {m : MethodId} {args : Array Value} {below : List Frame} {meth : Method} {c : Code} (X : Cx G p s m args meth c cX11_place 8 RX11 (some .int)) {r : Int32} {υ : Hp} {τ : Hp} {v1 v2 : Int32} {H : Heap} {locs : List Loc} {ls : Array Slot} (hH : Hs G τ s H locs) (hl : lv_has ls 8 [(0, .ref (aG G 42)), (1, .int v1), (2, .int v2)]) (hf : f_Mo_place N 42 τ v1 v2 = some (r, υ)) : WI l G (rmG 4 88) p e s m args below meth c r υ H locs (F0 m 0 ls []) := by
  have hx := X.hx
  have hb := X.hb
  unfold f_Mo_place at hf
  refine lv_aload_n hx hb dX11_place_0 rfl (lv_at hl 0 rfl) ?_
  refine lv_iconst (v := 0) hx hb dX11_place_1 (by decide) ?_
  obtain ⟨τ1, eτ1, hf⟩ := e_l hf
  refine g_put X hH (fp_42_0 G) tw_526 rfl rfl dX11_place_2 (fun H locs hH => ?_)
  have hH : Hs G τ1 s H locs := by rw [eτ1]; exact hH
  refine lv_aload_n hx hb dX11_place_5 rfl (lv_at hl 0 rfl) ?_
  refine lv_iload_n hx hb dX11_place_6 rfl (lv_at hl 1 rfl) ?_
  obtain ⟨r2, τ3, hc4, hf⟩ := e_b hf
  refine c_Vi X hH (k := 42) (n := 1) (As := [.int _]) (rest := []) (c_Mo_isHost_42 l G (N := N) hc4) (by decide) rfl rfl tw_618 tw_616 tw_617 tw_770 tw_13 (by decide +kernel) ⟨by decide, by decide⟩ rfl hl.1 rfl (Nat.le_of_ble_eq_true rfl) ⟨Nat.zero_le _, Nat.zero_le _⟩ dX11_place_7 (fun H locs hH => ?_)
  refine lv_if_eq (tgt := 37) hx hb dX11_place_10 (by decide) (fun c5 => ?_) (fun c5 => ?_)
  · have hf := e_t c5 hf
    refine lv_iconst (v := (-1)) hx hb dX11_place_37 (by decide) ?_
    exact r_i X hH hf dX11_place_38
  · have hf := e_f c5 hf
    refine lv_iload_n hx hb dX11_place_13 rfl (lv_at hl 2 rfl) ?_
    obtain ⟨r6, τ7, hc8, hf⟩ := e_b hf
    refine c_Si X hH (n := 1) (As := [.int _]) (rest := []) (c_Mo_isDay l G (N := N) hc8) tw_621 tw_619 tw_620 tw_13 (by decide +kernel) ⟨by decide, by decide⟩ rfl hl.1 rfl (Nat.le_of_ble_eq_true rfl) ⟨Nat.zero_le _, Nat.zero_le _⟩ dX11_place_14 (fun H locs hH => ?_)
    refine lv_if_eq (tgt := 37) hx hb dX11_place_17 (by decide) (fun c9 => ?_) (fun c9 => ?_)
    · have hf := e_t c9 hf
      refine lv_iconst (v := (-1)) hx hb dX11_place_37 (by decide) ?_
      exact r_i X hH hf dX11_place_38
    · have hf := e_f c9 hf
      refine lv_aload_n hx hb dX11_place_20 rfl (lv_at hl 0 rfl) ?_
      refine g_get X hH (fa_42_3 G) tw_529 dX11_place_21 ?_
      refine lv_iload_n hx hb dX11_place_24 rfl (lv_at hl 1 rfl) ?_
      obtain ⟨g10, hf⟩ := e_g hf
      refine a_ld X hH (aa_44 G) g10 dX11_place_25 ?_
      refine lv_iconst (v := (-1)) hx hb dX11_place_26 (by decide) ?_
      refine lv_icmp_ne (tgt := 37) hx hb dX11_place_27 (by decide) (fun c11 => ?_) (fun c11 => ?_)
      · have hf := e_f c11 hf
        refine lv_iconst (v := (-1)) hx hb dX11_place_37 (by decide) ?_
        exact r_i X hH hf dX11_place_38
      · have hf := e_t c11 hf
        refine lv_aload_n hx hb dX11_place_30 rfl (lv_at hl 0 rfl) ?_
        refine g_get X hH (fa_42_19 G) tw_545 dX11_place_31 ?_
        refine lv_if_ne (tgt := 39) hx hb dX11_place_34 (by decide) (fun c12 => ?_) (fun c12 => ?_)
        · have hf := e_f c12 hf
          refine lv_aload_n hx hb dX11_place_39 rfl (lv_at hl 0 rfl) ?_
          refine lv_iload_n hx hb dX11_place_40 rfl (lv_at hl 2 rfl) ?_
          obtain ⟨r13, τ14, hc15, hf⟩ := e_b hf
          refine c_Vv X hH (k := 42) (n := 1) (As := [.int _]) (rest := []) (c_Mo_dues_42 l G (N := N) hc15) (by decide) rfl rfl tw_658 tw_656 tw_657 tw_773 tw_13 (by decide +kernel) ⟨by decide, by decide⟩ rfl hl.1 rfl (Nat.le_of_ble_eq_true rfl) ⟨Nat.zero_le _, Nat.zero_le _⟩ dX11_place_41 (fun H locs hH => ?_)
          refine lv_aload_n hx hb dX11_place_44 rfl (lv_at hl 0 rfl) ?_
          obtain ⟨r16, τ17, hc18, hf⟩ := e_b hf
          refine c_Vi X hH (k := 42) (n := 0) (As := []) (rest := []) (c_Mo_roomMany_42 l G (N := N) hc18) (by decide) rfl rfl tw_744 tw_742 tw_743 tw_788 tw_13 (by decide +kernel) ⟨by decide, by decide⟩ rfl hl.1 rfl (Nat.le_of_ble_eq_true rfl) ⟨Nat.zero_le _, Nat.zero_le _⟩ dX11_place_45 (fun H locs hH => ?_)
          refine lv_istore_n (lv' := [(3, .int r16), (0, .ref (aG G 42)), (1, .int v1), (2, .int v2)]) hx hb dX11_place_48 rfl hl (by decide) rfl (fun ls hl => ?_)
          refine lv_iconst (v := (-1)) hx hb dX11_place_49 (by decide) ?_
          refine lv_istore (lv' := [(4, .int (-1)), (3, .int r16), (0, .ref (aG G 42)), (1, .int v1), (2, .int v2)]) hx hb dX11_place_50 hl (by decide) rfl (fun ls hl => ?_)
          refine lv_iconst (v := (-1)) hx hb dX11_place_52 (by decide) ?_
          refine lv_istore (lv' := [(5, .int (-1)), (4, .int (-1)), (3, .int r16), (0, .ref (aG G 42)), (1, .int v1), (2, .int v2)]) hx hb dX11_place_53 hl (by decide) rfl (fun ls hl => ?_)
          refine lv_iconst (v := 0) hx hb dX11_place_55 (by decide) ?_
          refine lv_istore (lv' := [(6, .int 0), (5, .int (-1)), (4, .int (-1)), (3, .int r16), (0, .ref (aG G 42)), (1, .int v1), (2, .int v2)]) hx hb dX11_place_56 hl (by decide) rfl (fun ls hl => ?_)
          exact b_Mo_place_42_58 (N := N) X _ _ _ _ _ _ _ _ _ _ hH (lv_sub hl [4, 5, 3, 2, 1, 0] rfl) hf
        · have hf := e_t c12 hf
          refine lv_iconst (v := (-1)) hx hb dX11_place_37 (by decide) ?_
          exact r_i X hH hf dX11_place_38
theorem c_Mo_place_42 (l : Launch) (G : GT) {N : Nat} {τ υ : Hp} {v1 v2 : Int32} {r : Int32} (hf : f_Mo_place N 42 τ v1 v2 = some (r, υ)) : MI l G yX11_place cX11_place 8 (some .int) 4 88 [.ref (aG G 42), .int v1, .int v2] τ r υ := mk_I (by decide) (Nat.le_of_ble_eq_true rfl) (fun p e s m args below meth c X hH ls hl => b_Mo_place_42_0 (N := N) X hH (lv_sub hl [0, 1, 2] rfl) hf)
set_option maxHeartbeats 4000000 in
set_option maxRecDepth 100000 in
theorem b_WP_count_0_0 {l : Launch} {G : GT} {N : Nat} {p : Program} {e : Env} {s : State} {m : MethodId} {args : Array Value} {below : List Frame} {meth : Method} {c : Code} (X : Cx G p s m args meth c cX10_count 2 RX10 (some .int)) {r : Int32} {υ : Hp} {τ : Hp} {v1 : Int32} {H : Heap} {locs : List Loc} {ls : Array Slot} (hH : Hs G τ s H locs) (hl : lv_has ls 2 [(0, .ref (aG G 0)), (1, .int v1)]) (hf : f_WP_count N 0 τ v1 = some (r, υ)) : WI l G (rmG 2 43) p e s m args below meth c r υ H locs (F0 m 0 ls []) := by
  have hx := X.hx
  have hb := X.hb
  unfold f_WP_count at hf
  refine lv_iload_n hx hb dX10_count_0 rfl (lv_at hl 1 rfl) ?_
  refine lv_topi (fun y1 ey1 => ?_)
  rw [← ey1] at hf
  by_cases c2 : y1 = 0
  · have hf := e_t c2 hf
    refine lv_tableIn (tgt := 40) hx hb dX10_count_1 (by rw [c2]; decide) (by rw [c2]; decide) (off := 39) (by rw [c2]; decide) (by decide) ?_
    refine lv_aload_n hx hb dX10_count_40 rfl (lv_at hl 0 rfl) ?_
    refine g_get X hH (fa_0_0 G) tw_174 dX10_count_41 ?_
    refine g_getN X hH (fa_1_3 G) 7 rfl dX10_count_44 ?_
    exact r_i X hH hf dX10_count_47
  have hf := e_f c2 hf
  by_cases c3 : y1 = 1
  · have hf := e_t c3 hf
    refine lv_tableIn (tgt := 48) hx hb dX10_count_1 (by rw [c3]; decide) (by rw [c3]; decide) (off := 47) (by rw [c3]; decide) (by decide) ?_
    refine lv_aload_n hx hb dX10_count_48 rfl (lv_at hl 0 rfl) ?_
    refine g_get X hH (fa_0_2 G) tw_176 dX10_count_49 ?_
    refine g_getN X hH (fa_6_3 G) 21 rfl dX10_count_52 ?_
    exact r_i X hH hf dX10_count_55
  have hf := e_f c3 hf
  by_cases c4 : y1 = 2
  · have hf := e_t c4 hf
    refine lv_tableIn (tgt := 56) hx hb dX10_count_1 (by rw [c4]; decide) (by rw [c4]; decide) (off := 55) (by rw [c4]; decide) (by decide) ?_
    refine lv_aload_n hx hb dX10_count_56 rfl (lv_at hl 0 rfl) ?_
    refine g_get X hH (fa_0_3 G) tw_177 dX10_count_57 ?_
    refine g_getN X hH (fa_10_0 G) 39 rfl dX10_count_60 ?_
    obtain ⟨r5, τ6, hc7, hf⟩ := e_b hf
    refine c_Vi X hH (k := 11) (n := 0) (As := []) (rest := []) (c_Ly_roomCount_11 l G (N := N) hc7) (by decide) rfl rfl tw_428 tw_519 tw_426 tw_427 tw_6 (by decide +kernel) ⟨by decide, by decide⟩ rfl hl.1 rfl (Nat.le_of_ble_eq_true rfl) ⟨Nat.zero_le _, Nat.zero_le _⟩ dX10_count_63 (fun H locs hH => ?_)
    exact r_i X hH hf dX10_count_66
  have hf := e_f c4 hf
  by_cases c8 : y1 = 3
  · have hf := e_t c8 hf
    refine lv_tableIn (tgt := 67) hx hb dX10_count_1 (by rw [c8]; decide) (by rw [c8]; decide) (off := 66) (by rw [c8]; decide) (by decide) ?_
    refine lv_aload_n hx hb dX10_count_67 rfl (lv_at hl 0 rfl) ?_
    refine g_get X hH (fa_0_3 G) tw_177 dX10_count_68 ?_
    refine g_getN X hH (fa_10_3 G) 45 rfl dX10_count_71 ?_
    exact r_i X hH hf dX10_count_74
  have hf := e_f c8 hf
  by_cases c9 : y1 = 4
  · have hf := e_t c9 hf
    refine lv_tableIn (tgt := 75) hx hb dX10_count_1 (by rw [c9]; decide) (by rw [c9]; decide) (off := 74) (by rw [c9]; decide) (by decide) ?_
    refine lv_aload_n hx hb dX10_count_75 rfl (lv_at hl 0 rfl) ?_
    refine g_get X hH (fa_0_3 G) tw_177 dX10_count_76 ?_
    refine g_getN X hH (fa_10_0 G) 39 rfl dX10_count_79 ?_
    refine g_getN X hH (fa_11_3 G) 31 rfl dX10_count_82 ?_
    exact r_i X hH hf dX10_count_85
  have hf := e_f c9 hf
  by_cases c10 : y1 = 5
  · have hf := e_t c10 hf
    refine lv_tableIn (tgt := 86) hx hb dX10_count_1 (by rw [c10]; decide) (by rw [c10]; decide) (off := 85) (by rw [c10]; decide) (by decide) ?_
    refine lv_aload_n hx hb dX10_count_86 rfl (lv_at hl 0 rfl) ?_
    refine g_get X hH (fa_0_3 G) tw_177 dX10_count_87 ?_
    refine g_getN X hH (fa_10_5 G) 47 rfl dX10_count_90 ?_
    refine lv_if_eq (tgt := 106) hx hb dX10_count_93 (by decide) (fun c11 => ?_) (fun c11 => ?_)
    · have hf := e_t c11 hf
      refine lv_iconst (v := (-1)) hx hb dX10_count_106 (by decide) ?_
      exact r_i X hH hf dX10_count_107
    · have hf := e_f c11 hf
      refine lv_aload_n hx hb dX10_count_96 rfl (lv_at hl 0 rfl) ?_
      refine g_get X hH (fa_0_3 G) tw_177 dX10_count_97 ?_
      refine g_getN X hH (fa_10_4 G) 46 rfl dX10_count_100 ?_
      refine lv_goto (tgt := 107) hx hb dX10_count_103 (by decide) ?_
      exact r_i X hH hf dX10_count_107
  have hf := e_f c10 hf
  refine lv_tableOut (tgt := 108) hx hb dX10_count_1 (sw_out 5 (fun j hj => ?_)) (by decide) ?_
  · rcases (show j = 0 ∨ j = 1 ∨ j = 2 ∨ j = 3 ∨ j = 4 ∨ j = 5 by omega) with rfl | rfl | rfl | rfl | rfl | rfl
    · exact c2
    · exact c3
    · exact c4
    · exact c8
    · exact c9
    · exact c10
  refine lv_iconst (v := (-1)) hx hb dX10_count_108 (by decide) ?_
  exact r_i X hH hf dX10_count_109
theorem c_WP_count_0 (l : Launch) (G : GT) {N : Nat} {τ υ : Hp} {v1 : Int32} {r : Int32} (hf : f_WP_count N 0 τ v1 = some (r, υ)) : MI l G yX10_count cX10_count 2 (some .int) 2 43 [.ref (aG G 0), .int v1] τ r υ := mk_I (by decide) (Nat.le_of_ble_eq_true rfl) (fun p e s m args below meth c X hH ls hl => b_WP_count_0_0 (N := N) X hH (lv_sub hl [0, 1] rfl) hf)
set_option maxHeartbeats 4000000 in
set_option maxRecDepth 100000 in
theorem b_Mo_count_42_9b {l : Launch} {G : GT} {N : Nat} {p : Program} {e : Env} {s : State} {m : MethodId} {args : Array Value} {below : List Frame} {meth : Method} {c : Code} (X : Cx G p s m args meth c cX11_count 4 RX11 (some .int)) {r : Int32} {υ : Hp} {k9 : Hp → Int32 → Int32 → Int32 → OR} (hk9 : ∀ (τ : Hp) (v1 v2 v3 : Int32) (H : Heap) (locs : List Loc) (ls : Array Slot), Hs G τ s H locs → lv_has ls 4 [(0, .ref (aG G 42)), (1, .int v1), (2, .int v2), (3, .int v3)] → k9 τ v1 v2 v3 = some (r, υ) → WI l G (rmG 2 43) p e s m args below meth c r υ H locs (F0 m 9 ls [])) {τ : Hp} {v1 v2 v3 : Int32} {H : Heap} {locs : List Loc} {ls : Array Slot} (hH : Hs G τ s H locs) (hl : lv_has ls 4 [(0, .ref (aG G 42)), (1, .int v1), (2, .int v2), (3, .int v3)]) (hf : f_Mo_count_L9b N 42 k9 τ v1 v2 v3 = some (r, υ)) : WI l G (rmG 2 43) p e s m args below meth c r υ H locs (F0 m 9 ls []) := by
  have hx := X.hx
  have hb := X.hb
  unfold f_Mo_count_L9b at hf
  refine lv_iload_n hx hb dX11_count_9 rfl (lv_at hl 3 rfl) ?_
  refine lv_sipush (v := 256) hx hb dX11_count_10 (by decide) ?_
  refine lv_icmp_ge (tgt := 39) hx hb dX11_count_13 (by decide) (fun c1 => ?_) (fun c1 => ?_)
  · have hf := e_t c1 hf
    refine lv_iload_n hx hb dX11_count_39 rfl (lv_at hl 1 rfl) ?_
    refine lv_topi (fun y2 ey2 => ?_)
    rw [← ey2] at hf
    by_cases c3 : y2 = 0
    · have hf := e_t c3 hf
      refine lv_tableIn (tgt := 80) hx hb dX11_count_40 (by rw [c3]; decide) (by rw [c3]; decide) (off := 40) (by rw [c3]; decide) (by decide) ?_
      refine lv_aload_n hx hb dX11_count_80 rfl (lv_at hl 0 rfl) ?_
      refine g_get X hH (fa_42_1 G) tw_527 dX11_count_81 ?_
      exact r_i X hH hf dX11_count_84
    have hf := e_f c3 hf
    by_cases c4 : y2 = 1
    · have hf := e_t c4 hf
      refine lv_tableIn (tgt := 85) hx hb dX11_count_40 (by rw [c4]; decide) (by rw [c4]; decide) (off := 45) (by rw [c4]; decide) (by decide) ?_
      refine lv_aload_n hx hb dX11_count_85 rfl (lv_at hl 0 rfl) ?_
      refine g_get X hH (fa_42_4 G) tw_530 dX11_count_86 ?_
      exact r_i X hH hf dX11_count_89
    have hf := e_f c4 hf
    by_cases c5 : y2 = 2
    · have hf := e_t c5 hf
      refine lv_tableIn (tgt := 90) hx hb dX11_count_40 (by rw [c5]; decide) (by rw [c5]; decide) (off := 50) (by rw [c5]; decide) (by decide) ?_
      refine lv_aload_n hx hb dX11_count_90 rfl (lv_at hl 0 rfl) ?_
      obtain ⟨r6, τ7, hc8, hf⟩ := e_b hf
      refine c_Vi X hH (k := 42) (n := 0) (As := []) (rest := []) (c_Mo_roomMany_42 l G (N := N) hc8) (by decide) rfl rfl tw_744 tw_742 tw_743 tw_788 tw_13 (by decide +kernel) ⟨by decide, by decide⟩ rfl hl.1 rfl (Nat.le_of_ble_eq_true rfl) ⟨Nat.zero_le _, Nat.zero_le _⟩ dX11_count_91 (fun H locs hH => ?_)
      exact r_i X hH hf dX11_count_94
    have hf := e_f c5 hf
    by_cases c9 : y2 = 3
    · have hf := e_t c9 hf
      refine lv_tableIn (tgt := 95) hx hb dX11_count_40 (by rw [c9]; decide) (by rw [c9]; decide) (off := 55) (by rw [c9]; decide) (by decide) ?_
      refine lv_iload_n hx hb dX11_count_95 rfl (lv_at hl 2 rfl) ?_
      exact r_i X hH hf dX11_count_96
    have hf := e_f c9 hf
    by_cases c10 : y2 = 4
    · have hf := e_t c10 hf
      refine lv_tableIn (tgt := 97) hx hb dX11_count_40 (by rw [c10]; decide) (by rw [c10]; decide) (off := 57) (by rw [c10]; decide) (by decide) ?_
      refine lv_aload_n hx hb dX11_count_97 rfl (lv_at hl 0 rfl) ?_
      refine g_get X hH (fa_42_21 G) tw_547 dX11_count_98 ?_
      exact r_i X hH hf dX11_count_101
    have hf := e_f c10 hf
    by_cases c11 : y2 = 5
    · have hf := e_t c11 hf
      refine lv_tableIn (tgt := 102) hx hb dX11_count_40 (by rw [c11]; decide) (by rw [c11]; decide) (off := 62) (by rw [c11]; decide) (by decide) ?_
      refine lv_aload_n hx hb dX11_count_102 rfl (lv_at hl 0 rfl) ?_
      refine g_get X hH (fa_42_19 G) tw_545 dX11_count_103 ?_
      refine lv_if_eq (tgt := 116) hx hb dX11_count_106 (by decide) (fun c12 => ?_) (fun c12 => ?_)
      · have hf := e_t c12 hf
        refine lv_iconst (v := (-1)) hx hb dX11_count_116 (by decide) ?_
        exact r_i X hH hf dX11_count_117
      · have hf := e_f c12 hf
        refine lv_aload_n hx hb dX11_count_109 rfl (lv_at hl 0 rfl) ?_
        refine g_get X hH (fa_42_20 G) tw_546 dX11_count_110 ?_
        refine lv_goto (tgt := 117) hx hb dX11_count_113 (by decide) ?_
        exact r_i X hH hf dX11_count_117
    have hf := e_f c11 hf
    refine lv_tableOut (tgt := 118) hx hb dX11_count_40 (sw_out 5 (fun j hj => ?_)) (by decide) ?_
    · rcases (show j = 0 ∨ j = 1 ∨ j = 2 ∨ j = 3 ∨ j = 4 ∨ j = 5 by omega) with rfl | rfl | rfl | rfl | rfl | rfl
      · exact c3
      · exact c4
      · exact c5
      · exact c9
      · exact c10
      · exact c11
    refine lv_iconst (v := (-1)) hx hb dX11_count_118 (by decide) ?_
    exact r_i X hH hf dX11_count_119
  · have hf := e_f c1 hf
    refine lv_iload_n hx hb dX11_count_16 rfl (lv_at hl 2 rfl) ?_
    refine lv_aload_n hx hb dX11_count_17 rfl (lv_at hl 0 rfl) ?_
    refine g_get X hH (fa_42_25 G) tw_551 dX11_count_18 ?_
    refine lv_iload_n hx hb dX11_count_21 rfl (lv_at hl 3 rfl) ?_
    obtain ⟨g13, hf⟩ := e_g hf
    refine z_ld X hH (aa_57 G) g13 dX11_count_22 ?_
    refine lv_if_eq (tgt := 30) hx hb dX11_count_23 (by decide) (fun c14 => ?_) (fun c14 => ?_)
    · have hf := e_t c14 hf
      refine lv_iconst (v := 0) hx hb dX11_count_30 (by decide) ?_
      refine lv_iadd hx hb dX11_count_31 ?_
      obtain ⟨x15, ex15, hf⟩ := e_l hf
      refine g_nm ex15 ?_
      refine lv_istore_n (lv' := [(2, .int x15), (0, .ref (aG G 42)), (1, .int v1), (3, .int v3)]) hx hb dX11_count_32 rfl hl (by decide) rfl (fun ls hl => ?_)
      obtain ⟨x16, ex16, hf⟩ := e_l hf
      refine lv_iinc (v := x16) (lv' := [(3, .int x16), (2, .int x15), (0, .ref (aG G 42)), (1, .int v1)]) hx hb dX11_count_33 hl (k := 3) rfl (by rw [ex16]; rfl) (by decide) rfl (fun ls hl => ?_)
      refine lv_goto (tgt := 9) hx hb dX11_count_36 (by decide) ?_
      exact hk9 _ _ _ _ _ _ _ hH (lv_sub hl [2, 3, 1, 0] rfl) hf
    · have hf := e_f c14 hf
      refine lv_iconst (v := 1) hx hb dX11_count_26 (by decide) ?_
      refine lv_goto (tgt := 31) hx hb dX11_count_27 (by decide) ?_
      refine lv_iadd hx hb dX11_count_31 ?_
      obtain ⟨x17, ex17, hf⟩ := e_l hf
      refine g_nm ex17 ?_
      refine lv_istore_n (lv' := [(2, .int x17), (0, .ref (aG G 42)), (1, .int v1), (3, .int v3)]) hx hb dX11_count_32 rfl hl (by decide) rfl (fun ls hl => ?_)
      obtain ⟨x18, ex18, hf⟩ := e_l hf
      refine lv_iinc (v := x18) (lv' := [(3, .int x18), (2, .int x17), (0, .ref (aG G 42)), (1, .int v1)]) hx hb dX11_count_33 hl (k := 3) rfl (by rw [ex18]; rfl) (by decide) rfl (fun ls hl => ?_)
      refine lv_goto (tgt := 9) hx hb dX11_count_36 (by decide) ?_
      exact hk9 _ _ _ _ _ _ _ hH (lv_sub hl [2, 3, 1, 0] rfl) hf
theorem b_Mo_count_42_9 {l : Launch} {G : GT} {N : Nat} {p : Program} {e : Env} {s : State} {m : MethodId} {args : Array Value} {below : List Frame} {meth : Method} {c : Code} (X : Cx G p s m args meth c cX11_count 4 RX11 (some .int)) {r : Int32} {υ : Hp} : ∀ (n : Nat) (τ : Hp) (v1 v2 v3 : Int32) (H : Heap) (locs : List Loc) (ls : Array Slot), Hs G τ s H locs → lv_has ls 4 [(0, .ref (aG G 42)), (1, .int v1), (2, .int v2), (3, .int v3)] → f_Mo_count_L9 N 42 n τ v1 v2 v3 = some (r, υ) → WI l G (rmG 2 43) p e s m args below meth c r υ H locs (F0 m 9 ls []) := by
  intro n
  induction n with
  | zero => intro τ v1 v2 v3 H locs ls hH hl hf; exact nomatch (show (none : OR) = some (r, υ) from hf)
  | succ n ih => intro τ v1 v2 v3 H locs ls hH hl hf; exact b_Mo_count_42_9b (N := N) X ih hH hl hf
set_option maxHeartbeats 4000000 in
set_option maxRecDepth 100000 in
theorem b_Mo_count_42_0 {l : Launch} {G : GT} {N : Nat} {p : Program} {e : Env} {s : State} {m : MethodId} {args : Array Value} {below : List Frame} {meth : Method} {c : Code} (X : Cx G p s m args meth c cX11_count 4 RX11 (some .int)) {r : Int32} {υ : Hp} {τ : Hp} {v1 : Int32} {H : Heap} {locs : List Loc} {ls : Array Slot} (hH : Hs G τ s H locs) (hl : lv_has ls 4 [(0, .ref (aG G 42)), (1, .int v1)]) (hf : f_Mo_count N 42 τ v1 = some (r, υ)) : WI l G (rmG 2 43) p e s m args below meth c r υ H locs (F0 m 0 ls []) := by
  have hx := X.hx
  have hb := X.hb
  unfold f_Mo_count at hf
  refine lv_aload_n hx hb dX11_count_0 rfl (lv_at hl 0 rfl) ?_
  refine lv_iconst (v := 0) hx hb dX11_count_1 (by decide) ?_
  obtain ⟨τ1, eτ1, hf⟩ := e_l hf
  refine g_put X hH (fp_42_0 G) tw_526 rfl rfl dX11_count_2 (fun H locs hH => ?_)
  have hH : Hs G τ1 s H locs := by rw [eτ1]; exact hH
  refine lv_iconst (v := 0) hx hb dX11_count_5 (by decide) ?_
  refine lv_istore_n (lv' := [(2, .int 0), (0, .ref (aG G 42)), (1, .int v1)]) hx hb dX11_count_6 rfl hl (by decide) rfl (fun ls hl => ?_)
  refine lv_iconst (v := 0) hx hb dX11_count_7 (by decide) ?_
  refine lv_istore_n (lv' := [(3, .int 0), (2, .int 0), (0, .ref (aG G 42)), (1, .int v1)]) hx hb dX11_count_8 rfl hl (by decide) rfl (fun ls hl => ?_)
  exact b_Mo_count_42_9 (N := N) X _ _ _ _ _ _ _ _ hH (lv_sub hl [2, 3, 1, 0] rfl) hf
theorem c_Mo_count_42 (l : Launch) (G : GT) {N : Nat} {τ υ : Hp} {v1 : Int32} {r : Int32} (hf : f_Mo_count N 42 τ v1 = some (r, υ)) : MI l G yX11_count cX11_count 4 (some .int) 2 43 [.ref (aG G 42), .int v1] τ r υ := mk_I (by decide) (Nat.le_of_ble_eq_true rfl) (fun p e s m args below meth c X hH ls hl => b_Mo_count_42_0 (N := N) X hH (lv_sub hl [0, 1] rfl) hf)
