-- Sp_follow_27_10 Sp_othersFrom_27 WP_reach_0 Mo_opens_42 Mo_reachOf_42 Mo_reach_42 Sp_widest_27 Sp_firstWith_27_11 WP_spread_0 Mo_spreads_42 Mo_spread_42 Sh_choose_30 Sh_tollOf_30 Sp_chain_31
set_option maxHeartbeats 4000000 in
set_option maxRecDepth 100000 in
theorem b_Sp_follow_27_10_10b {l : Launch} {G : GT} {N : Nat} {p : Program} {e : Env} {s : State} {m : MethodId} {args : Array Value} {below : List Frame} {meth : Method} {c : Code} (X : Cx G p s m args meth c cX9_follow 3 RX9 none) {r : Int32} {υ : Hp} {k10 : Hp → Int32 → OR} (hk10 : ∀ (τ : Hp) (v2 : Int32) (H : Heap) (locs : List Loc) (ls : Array Slot), Hs G τ s H locs → lv_has ls 3 [(0, .ref (aG G 27)), (1, .ref (aG G 10)), (2, .int v2)] → k10 τ v2 = some (r, υ) → WV l G (rmG 3 65) p e s m args below meth c υ H locs (F0 m 10 ls [])) {τ : Hp} {v2 : Int32} {H : Heap} {locs : List Loc} {ls : Array Slot} (hH : Hs G τ s H locs) (hl : lv_has ls 3 [(0, .ref (aG G 27)), (1, .ref (aG G 10)), (2, .int v2)]) (hf : f_Sp_follow_L10b N 27 10 k10 τ v2 = some (r, υ)) : WV l G (rmG 3 65) p e s m args below meth c υ H locs (F0 m 10 ls []) := by
  have hx := X.hx
  have hb := X.hb
  unfold f_Sp_follow_L10b at hf
  refine lv_iload_n hx hb dX9_follow_10 rfl (lv_at hl 2 rfl) ?_
  refine lv_aload_n hx hb dX9_follow_11 rfl (lv_at hl 1 rfl) ?_
  refine g_getN X hH (fa_10_3 G) 43 rfl dX9_follow_12 ?_
  refine lv_icmp_ge (tgt := 34) hx hb dX9_follow_15 (by decide) (fun c1 => ?_) (fun c1 => ?_)
  · have hf := e_t c1 hf
    refine lv_aload_n hx hb dX9_follow_34 rfl (lv_at hl 0 rfl) ?_
    obtain ⟨r2, τ3, hc4, hf⟩ := e_b hf
    refine c_Vv X hH (k := 27) (n := 0) (As := []) (rest := []) (c_Sp_chain_27 l G (N := N) hc4) (by decide) rfl rfl tw_437 tw_434 tw_435 tw_436 tw_10 (by decide +kernel) ⟨by decide, by decide⟩ rfl hl.1 rfl (Nat.le_of_ble_eq_true rfl) ⟨Nat.zero_le _, Nat.zero_le _⟩ dX9_follow_35 (fun H locs hH => ?_)
    exact r_v X hH hf dX9_follow_38
  · have hf := e_f c1 hf
    refine lv_aload_n hx hb dX9_follow_18 rfl (lv_at hl 0 rfl) ?_
    refine lv_aload_n hx hb dX9_follow_19 rfl (lv_at hl 1 rfl) ?_
    refine g_getN X hH (fa_10_2 G) 40 rfl dX9_follow_20 ?_
    refine lv_iload_n hx hb dX9_follow_23 rfl (lv_at hl 2 rfl) ?_
    obtain ⟨g5, hf⟩ := e_g hf
    refine a_ld X hH (aa_17 G) g5 dX9_follow_24 ?_
    obtain ⟨r6, τ7, hc8, hf⟩ := e_b hf
    refine c_Vv X hH (k := 27) (n := 1) (As := [.int _]) (rest := []) (c_Sp_addRule_27 l G (N := N) hc8) (by decide) rfl rfl tw_433 tw_430 tw_431 tw_432 tw_10 (by decide +kernel) ⟨by decide, by decide⟩ rfl hl.1 rfl (Nat.le_of_ble_eq_true rfl) ⟨Nat.zero_le _, Nat.zero_le _⟩ dX9_follow_25 (fun H locs hH => ?_)
    obtain ⟨x9, ex9, hf⟩ := e_l hf
    refine lv_iinc (v := x9) (lv' := [(2, .int x9), (0, .ref (aG G 27)), (1, .ref (aG G 10))]) hx hb dX9_follow_28 hl (k := 2) rfl (by rw [ex9]; rfl) (by decide) rfl (fun ls hl => ?_)
    refine lv_goto (tgt := 10) hx hb dX9_follow_31 (by decide) ?_
    exact hk10 _ _ _ _ _ hH (lv_sub hl [1, 2, 0] rfl) hf
theorem b_Sp_follow_27_10_10 {l : Launch} {G : GT} {N : Nat} {p : Program} {e : Env} {s : State} {m : MethodId} {args : Array Value} {below : List Frame} {meth : Method} {c : Code} (X : Cx G p s m args meth c cX9_follow 3 RX9 none) {r : Int32} {υ : Hp} : ∀ (n : Nat) (τ : Hp) (v2 : Int32) (H : Heap) (locs : List Loc) (ls : Array Slot), Hs G τ s H locs → lv_has ls 3 [(0, .ref (aG G 27)), (1, .ref (aG G 10)), (2, .int v2)] → f_Sp_follow_L10 N 27 10 n τ v2 = some (r, υ) → WV l G (rmG 3 65) p e s m args below meth c υ H locs (F0 m 10 ls []) := by
  intro n
  induction n with
  | zero => intro τ v2 H locs ls hH hl hf; exact nomatch (show (none : OR) = some (r, υ) from hf)
  | succ n ih => intro τ v2 H locs ls hH hl hf; exact b_Sp_follow_27_10_10b (N := N) X ih hH hl hf
set_option maxHeartbeats 4000000 in
set_option maxRecDepth 100000 in
theorem b_Sp_follow_27_10_0 {l : Launch} {G : GT} {N : Nat} {p : Program} {e : Env} {s : State} {m : MethodId} {args : Array Value} {below : List Frame} {meth : Method} {c : Code} (X : Cx G p s m args meth c cX9_follow 3 RX9 none) {r : Int32} {υ : Hp} {τ : Hp} {H : Heap} {locs : List Loc} {ls : Array Slot} (hH : Hs G τ s H locs) (hl : lv_has ls 3 [(0, .ref (aG G 27)), (1, .ref (aG G 10))]) (hf : f_Sp_follow N 27 10 τ = some (r, υ)) : WV l G (rmG 3 65) p e s m args below meth c υ H locs (F0 m 0 ls []) := by
  have hx := X.hx
  have hb := X.hb
  unfold f_Sp_follow at hf
  refine lv_aload_n hx hb dX9_follow_0 rfl (lv_at hl 0 rfl) ?_
  refine lv_aload_n hx hb dX9_follow_1 rfl (lv_at hl 1 rfl) ?_
  refine g_getN X hH (fa_10_0 G) 36 rfl dX9_follow_2 ?_
  obtain ⟨r1, τ2, hc3, hf⟩ := e_b hf
  refine c_Vv X hH (k := 27) (n := 1) (As := [.ref (aG G 11)]) (rest := []) (c_Sp_begin_27_11 l G (N := N) hc3) (by decide) rfl rfl tw_424 tw_421 tw_422 tw_423 tw_10 (by decide +kernel) ⟨by decide, by decide⟩ rfl hl.1 rfl (Nat.le_of_ble_eq_true rfl) ⟨Nat.zero_le _, Nat.zero_le _⟩ dX9_follow_5 (fun H locs hH => ?_)
  refine lv_iconst (v := 0) hx hb dX9_follow_8 (by decide) ?_
  refine lv_istore_n (lv' := [(2, .int 0), (0, .ref (aG G 27)), (1, .ref (aG G 10))]) hx hb dX9_follow_9 rfl hl (by decide) rfl (fun ls hl => ?_)
  exact b_Sp_follow_27_10_10 (N := N) X _ _ _ _ _ _ hH (lv_sub hl [1, 2, 0] rfl) hf
theorem c_Sp_follow_27_10 (l : Launch) (G : GT) {N : Nat} {τ υ : Hp} {r : Int32} (hf : f_Sp_follow N 27 10 τ = some (r, υ)) : MV l G yX9_follow cX9_follow 3 3 65 [.ref (aG G 27), .ref (aG G 10)] τ υ := mk_V (by decide) (Nat.le_of_ble_eq_true rfl) (fun p e s m args below meth c X hH ls hl => b_Sp_follow_27_10_0 (N := N) X hH (lv_sub hl [0, 1] rfl) hf)
set_option maxHeartbeats 4000000 in
set_option maxRecDepth 100000 in
theorem b_Sp_othersFrom_27_4b {l : Launch} {G : GT} {N : Nat} {p : Program} {e : Env} {s : State} {m : MethodId} {args : Array Value} {below : List Frame} {meth : Method} {c : Code} (X : Cx G p s m args meth c cX9_othersFrom 4 RX9 (some .int)) {r : Int32} {υ : Hp} {k4 : Hp → Int32 → Int32 → Int32 → OR} (hk4 : ∀ (τ : Hp) (v1 v2 v3 : Int32) (H : Heap) (locs : List Loc) (ls : Array Slot), Hs G τ s H locs → lv_has ls 4 [(0, .ref (aG G 27)), (1, .int v1), (2, .int v2), (3, .int v3)] → k4 τ v1 v2 v3 = some (r, υ) → WI l G (rmG 0 0) p e s m args below meth c r υ H locs (F0 m 4 ls [])) {τ : Hp} {v1 v2 v3 : Int32} {H : Heap} {locs : List Loc} {ls : Array Slot} (hH : Hs G τ s H locs) (hl : lv_has ls 4 [(0, .ref (aG G 27)), (1, .int v1), (2, .int v2), (3, .int v3)]) (hf : f_Sp_othersFrom_L4b N 27 k4 τ v1 v2 v3 = some (r, υ)) : WI l G (rmG 0 0) p e s m args below meth c r υ H locs (F0 m 4 ls []) := by
  have hx := X.hx
  have hb := X.hb
  unfold f_Sp_othersFrom_L4b at hf
  refine lv_iload_n hx hb dX9_othersFrom_4 rfl (lv_at hl 3 rfl) ?_
  refine lv_aload_n hx hb dX9_othersFrom_5 rfl (lv_at hl 0 rfl) ?_
  refine g_get X hH (fa_27_2 G) tw_137 dX9_othersFrom_6 ?_
  refine lv_icmp_ge (tgt := 41) hx hb dX9_othersFrom_9 (by decide) (fun c1 => ?_) (fun c1 => ?_)
  · have hf := e_t c1 hf
    refine lv_iload_n hx hb dX9_othersFrom_41 rfl (lv_at hl 2 rfl) ?_
    refine lv_iconst (v := 1) hx hb dX9_othersFrom_42 (by decide) ?_
    refine lv_isub hx hb dX9_othersFrom_43 ?_
    exact r_i X hH hf dX9_othersFrom_44
  · have hf := e_f c1 hf
    refine lv_aload_n hx hb dX9_othersFrom_12 rfl (lv_at hl 0 rfl) ?_
    refine g_get X hH (fa_27_1 G) tw_136 dX9_othersFrom_13 ?_
    refine lv_iload_n hx hb dX9_othersFrom_16 rfl (lv_at hl 1 rfl) ?_
    obtain ⟨g2, hf⟩ := e_g hf
    refine a_ld X hH (aa_29 G) g2 dX9_othersFrom_17 ?_
    refine lv_iload_n hx hb dX9_othersFrom_18 rfl (lv_at hl 3 rfl) ?_
    refine lv_ishr hx hb dX9_othersFrom_19 ?_
    refine lv_iconst (v := 1) hx hb dX9_othersFrom_20 (by decide) ?_
    refine lv_iand hx hb dX9_othersFrom_21 ?_
    refine lv_iconst (v := 1) hx hb dX9_othersFrom_22 (by decide) ?_
    refine lv_icmp_ne (tgt := 35) hx hb dX9_othersFrom_23 (by decide) (fun c3 => ?_) (fun c3 => ?_)
    · have hf := e_f c3 hf
      obtain ⟨x4, ex4, hf⟩ := e_l hf
      refine lv_iinc (v := x4) (lv' := [(3, .int x4), (0, .ref (aG G 27)), (1, .int v1), (2, .int v2)]) hx hb dX9_othersFrom_35 hl (k := 3) rfl (by rw [ex4]; rfl) (by decide) rfl (fun ls hl => ?_)
      refine lv_goto (tgt := 4) hx hb dX9_othersFrom_38 (by decide) ?_
      exact hk4 _ _ _ _ _ _ _ hH (lv_sub hl [1, 2, 3, 0] rfl) hf
    · have hf := e_t c3 hf
      refine lv_iload_n hx hb dX9_othersFrom_26 rfl (lv_at hl 2 rfl) ?_
      refine lv_aload_n hx hb dX9_othersFrom_27 rfl (lv_at hl 0 rfl) ?_
      refine g_get X hH (fa_27_0 G) tw_135 dX9_othersFrom_28 ?_
      refine lv_iload_n hx hb dX9_othersFrom_31 rfl (lv_at hl 3 rfl) ?_
      obtain ⟨g5, hf⟩ := e_g hf
      refine a_ld X hH (aa_28 G) g5 dX9_othersFrom_32 ?_
      refine lv_iadd hx hb dX9_othersFrom_33 ?_
      obtain ⟨x6, ex6, hf⟩ := e_l hf
      refine g_nm ex6 ?_
      refine lv_istore_n (lv' := [(2, .int x6), (0, .ref (aG G 27)), (1, .int v1), (3, .int v3)]) hx hb dX9_othersFrom_34 rfl hl (by decide) rfl (fun ls hl => ?_)
      obtain ⟨x7, ex7, hf⟩ := e_l hf
      refine lv_iinc (v := x7) (lv' := [(3, .int x7), (2, .int x6), (0, .ref (aG G 27)), (1, .int v1)]) hx hb dX9_othersFrom_35 hl (k := 3) rfl (by rw [ex7]; rfl) (by decide) rfl (fun ls hl => ?_)
      refine lv_goto (tgt := 4) hx hb dX9_othersFrom_38 (by decide) ?_
      exact hk4 _ _ _ _ _ _ _ hH (lv_sub hl [2, 3, 1, 0] rfl) hf
theorem b_Sp_othersFrom_27_4 {l : Launch} {G : GT} {N : Nat} {p : Program} {e : Env} {s : State} {m : MethodId} {args : Array Value} {below : List Frame} {meth : Method} {c : Code} (X : Cx G p s m args meth c cX9_othersFrom 4 RX9 (some .int)) {r : Int32} {υ : Hp} : ∀ (n : Nat) (τ : Hp) (v1 v2 v3 : Int32) (H : Heap) (locs : List Loc) (ls : Array Slot), Hs G τ s H locs → lv_has ls 4 [(0, .ref (aG G 27)), (1, .int v1), (2, .int v2), (3, .int v3)] → f_Sp_othersFrom_L4 N 27 n τ v1 v2 v3 = some (r, υ) → WI l G (rmG 0 0) p e s m args below meth c r υ H locs (F0 m 4 ls []) := by
  intro n
  induction n with
  | zero => intro τ v1 v2 v3 H locs ls hH hl hf; exact nomatch (show (none : OR) = some (r, υ) from hf)
  | succ n ih => intro τ v1 v2 v3 H locs ls hH hl hf; exact b_Sp_othersFrom_27_4b (N := N) X ih hH hl hf
set_option maxHeartbeats 4000000 in
set_option maxRecDepth 100000 in
theorem b_Sp_othersFrom_27_0 {l : Launch} {G : GT} {N : Nat} {p : Program} {e : Env} {s : State} {m : MethodId} {args : Array Value} {below : List Frame} {meth : Method} {c : Code} (X : Cx G p s m args meth c cX9_othersFrom 4 RX9 (some .int)) {r : Int32} {υ : Hp} {τ : Hp} {v1 : Int32} {H : Heap} {locs : List Loc} {ls : Array Slot} (hH : Hs G τ s H locs) (hl : lv_has ls 4 [(0, .ref (aG G 27)), (1, .int v1)]) (hf : f_Sp_othersFrom N 27 τ v1 = some (r, υ)) : WI l G (rmG 0 0) p e s m args below meth c r υ H locs (F0 m 0 ls []) := by
  have hx := X.hx
  have hb := X.hb
  unfold f_Sp_othersFrom at hf
  refine lv_iconst (v := 0) hx hb dX9_othersFrom_0 (by decide) ?_
  refine lv_istore_n (lv' := [(2, .int 0), (0, .ref (aG G 27)), (1, .int v1)]) hx hb dX9_othersFrom_1 rfl hl (by decide) rfl (fun ls hl => ?_)
  refine lv_iconst (v := 0) hx hb dX9_othersFrom_2 (by decide) ?_
  refine lv_istore_n (lv' := [(3, .int 0), (2, .int 0), (0, .ref (aG G 27)), (1, .int v1)]) hx hb dX9_othersFrom_3 rfl hl (by decide) rfl (fun ls hl => ?_)
  exact b_Sp_othersFrom_27_4 (N := N) X _ _ _ _ _ _ _ _ hH (lv_sub hl [2, 3, 1, 0] rfl) hf
theorem c_Sp_othersFrom_27 (l : Launch) (G : GT) {N : Nat} {τ υ : Hp} {v1 : Int32} {r : Int32} (hf : f_Sp_othersFrom N 27 τ v1 = some (r, υ)) : MI l G yX9_othersFrom cX9_othersFrom 4 (some .int) 0 0 [.ref (aG G 27), .int v1] τ r υ := mk_I (by decide) (Nat.le_of_ble_eq_true rfl) (fun p e s m args below meth c X hH ls hl => b_Sp_othersFrom_27_0 (N := N) X hH (lv_sub hl [0, 1] rfl) hf)
set_option maxHeartbeats 4000000 in
set_option maxRecDepth 100000 in
theorem b_WP_reach_0_0 {l : Launch} {G : GT} {N : Nat} {p : Program} {e : Env} {s : State} {m : MethodId} {args : Array Value} {below : List Frame} {meth : Method} {c : Code} (X : Cx G p s m args meth c cX10_reach 2 RX10 (some .int)) {r : Int32} {υ : Hp} {τ : Hp} {v1 : Int32} {H : Heap} {locs : List Loc} {ls : Array Slot} (hH : Hs G τ s H locs) (hl : lv_has ls 2 [(0, .ref (aG G 0)), (1, .int v1)]) (hf : f_WP_reach N 0 τ v1 = some (r, υ)) : WI l G (rmG 4 87) p e s m args below meth c r υ H locs (F0 m 0 ls []) := by
  have hx := X.hx
  have hb := X.hb
  unfold f_WP_reach at hf
  refine lv_aload_n hx hb dX10_reach_0 rfl (lv_at hl 0 rfl) ?_
  refine g_get X hH (fa_0_0 G) tw_174 dX10_reach_1 ?_
  refine lv_iload_n hx hb dX10_reach_4 rfl (lv_at hl 1 rfl) ?_
  obtain ⟨r1, τ2, hc3, hf⟩ := e_b hf
  refine c_Vi X hH (k := 1) (n := 1) (As := [.int _]) (rest := []) (c_Nt_isHost_1 l G (N := N) hc3) (by decide) rfl rfl tw_214 tw_369 tw_212 tw_213 tw_2 (by decide +kernel) ⟨by decide, by decide⟩ rfl hl.1 rfl (Nat.le_of_ble_eq_true rfl) ⟨Nat.zero_le _, Nat.zero_le _⟩ dX10_reach_5 (fun H locs hH => ?_)
  refine lv_if_eq (tgt := 27) hx hb dX10_reach_8 (by decide) (fun c4 => ?_) (fun c4 => ?_)
  · have hf := e_t c4 hf
    refine lv_iconst (v := (-1)) hx hb dX10_reach_27 (by decide) ?_
    exact r_i X hH hf dX10_reach_28
  · have hf := e_f c4 hf
    refine lv_aload_n hx hb dX10_reach_11 rfl (lv_at hl 0 rfl) ?_
    refine g_get X hH (fa_0_3 G) tw_177 dX10_reach_12 ?_
    refine g_getN X hH (fa_10_0 G) 39 rfl dX10_reach_15 ?_
    refine g_getN X hH (fa_11_0 G) 25 rfl dX10_reach_18 ?_
    refine lv_iload_n hx hb dX10_reach_21 rfl (lv_at hl 1 rfl) ?_
    obtain ⟨g5, hf⟩ := e_g hf
    refine a_ld X hH (aa_12 G) g5 dX10_reach_22 ?_
    refine lv_iconst (v := (-1)) hx hb dX10_reach_23 (by decide) ?_
    refine lv_icmp_ne (tgt := 29) hx hb dX10_reach_24 (by decide) (fun c6 => ?_) (fun c6 => ?_)
    · have hf := e_f c6 hf
      refine lv_aload_n hx hb dX10_reach_29 rfl (lv_at hl 0 rfl) ?_
      refine g_get X hH (fa_0_6 G) tw_180 dX10_reach_30 ?_
      refine lv_aload_n hx hb dX10_reach_33 rfl (lv_at hl 0 rfl) ?_
      refine g_get X hH (fa_0_3 G) tw_177 dX10_reach_34 ?_
      obtain ⟨r7, τ8, hc9, hf⟩ := e_b hf
      refine c_Vv X hH (k := 27) (n := 1) (As := [.ref (aG G 10)]) (rest := []) (c_Sp_follow_27_10 l G (N := N) hc9) (by decide) rfl rfl tw_420 tw_417 tw_418 tw_419 tw_10 (by decide +kernel) ⟨by decide, by decide⟩ rfl hl.1 rfl (Nat.le_of_ble_eq_true rfl) ⟨Nat.zero_le _, Nat.zero_le _⟩ dX10_reach_37 (fun H locs hH => ?_)
      refine lv_aload_n hx hb dX10_reach_40 rfl (lv_at hl 0 rfl) ?_
      refine g_get X hH (fa_0_6 G) tw_180 dX10_reach_41 ?_
      refine lv_aload_n hx hb dX10_reach_44 rfl (lv_at hl 0 rfl) ?_
      refine g_get X hH (fa_0_3 G) tw_177 dX10_reach_45 ?_
      refine g_getN X hH (fa_10_0 G) 39 rfl dX10_reach_48 ?_
      refine g_getN X hH (fa_11_0 G) 25 rfl dX10_reach_51 ?_
      refine lv_iload_n hx hb dX10_reach_54 rfl (lv_at hl 1 rfl) ?_
      obtain ⟨g10, hf⟩ := e_g hf
      refine a_ld X hH (aa_12 G) g10 dX10_reach_55 ?_
      obtain ⟨r11, τ12, hc13, hf⟩ := e_b hf
      refine c_Vi X hH (k := 27) (n := 1) (As := [.int _]) (rest := []) (c_Sp_othersFrom_27 l G (N := N) hc13) (by decide) rfl rfl tw_441 tw_438 tw_439 tw_440 tw_10 (by decide +kernel) ⟨by decide, by decide⟩ rfl hl.1 rfl (Nat.le_of_ble_eq_true rfl) ⟨Nat.zero_le _, Nat.zero_le _⟩ dX10_reach_56 (fun H locs hH => ?_)
      exact r_i X hH hf dX10_reach_59
    · have hf := e_t c6 hf
      refine lv_iconst (v := (-1)) hx hb dX10_reach_27 (by decide) ?_
      exact r_i X hH hf dX10_reach_28
theorem c_WP_reach_0 (l : Launch) (G : GT) {N : Nat} {τ υ : Hp} {v1 : Int32} {r : Int32} (hf : f_WP_reach N 0 τ v1 = some (r, υ)) : MI l G yX10_reach cX10_reach 2 (some .int) 4 87 [.ref (aG G 0), .int v1] τ r υ := mk_I (by decide) (Nat.le_of_ble_eq_true rfl) (fun p e s m args below meth c X hH ls hl => b_WP_reach_0_0 (N := N) X hH (lv_sub hl [0, 1] rfl) hf)
set_option maxHeartbeats 4000000 in
set_option maxRecDepth 100000 in
theorem b_Mo_opens_42_2b {l : Launch} {G : GT} {N : Nat} {p : Program} {e : Env} {s : State} {m : MethodId} {args : Array Value} {below : List Frame} {meth : Method} {c : Code} (X : Cx G p s m args meth c cX11_opens 2 RX11 none) {r : Int32} {υ : Hp} {k2 : Hp → Int32 → OR} (hk2 : ∀ (τ : Hp) (v1 : Int32) (H : Heap) (locs : List Loc) (ls : Array Slot), Hs G τ s H locs → lv_has ls 2 [(0, .ref (aG G 42)), (1, .int v1)] → k2 τ v1 = some (r, υ) → WV l G (rmG 0 0) p e s m args below meth c υ H locs (F0 m 2 ls [])) {τ : Hp} {v1 : Int32} {H : Heap} {locs : List Loc} {ls : Array Slot} (hH : Hs G τ s H locs) (hl : lv_has ls 2 [(0, .ref (aG G 42)), (1, .int v1)]) (hf : f_Mo_opens_L2b N 42 k2 τ v1 = some (r, υ)) : WV l G (rmG 0 0) p e s m args below meth c υ H locs (F0 m 2 ls []) := by
  have hx := X.hx
  have hb := X.hb
  unfold f_Mo_opens_L2b at hf
  refine lv_iload_n hx hb dX11_opens_2 rfl (lv_at hl 1 rfl) ?_
  refine lv_sipush (v := 256) hx hb dX11_opens_3 (by decide) ?_
  refine lv_icmp_ge (tgt := 22) hx hb dX11_opens_6 (by decide) (fun c1 => ?_) (fun c1 => ?_)
  · have hf := e_t c1 hf
    exact r_v X hH hf dX11_opens_22
  · have hf := e_f c1 hf
    refine lv_aload_n hx hb dX11_opens_9 rfl (lv_at hl 0 rfl) ?_
    refine g_get X hH (fa_42_27 G) tw_553 dX11_opens_10 ?_
    refine lv_iload_n hx hb dX11_opens_13 rfl (lv_at hl 1 rfl) ?_
    refine lv_iconst (v := 0) hx hb dX11_opens_14 (by decide) ?_
    obtain ⟨g2, hf⟩ := e_g hf
    obtain ⟨τ3, eτ3, hf⟩ := e_l hf
    refine z_st X hH (aa_58 G) g2 dX11_opens_15 (fun H locs hH => ?_)
    have hH : Hs G τ3 s H locs := by rw [eτ3]; exact hH
    obtain ⟨x4, ex4, hf⟩ := e_l hf
    refine lv_iinc (v := x4) (lv' := [(1, .int x4), (0, .ref (aG G 42))]) hx hb dX11_opens_16 hl (k := 1) rfl (by rw [ex4]; rfl) (by decide) rfl (fun ls hl => ?_)
    refine lv_goto (tgt := 2) hx hb dX11_opens_19 (by decide) ?_
    exact hk2 _ _ _ _ _ hH (lv_sub hl [1, 0] rfl) hf
theorem b_Mo_opens_42_2 {l : Launch} {G : GT} {N : Nat} {p : Program} {e : Env} {s : State} {m : MethodId} {args : Array Value} {below : List Frame} {meth : Method} {c : Code} (X : Cx G p s m args meth c cX11_opens 2 RX11 none) {r : Int32} {υ : Hp} : ∀ (n : Nat) (τ : Hp) (v1 : Int32) (H : Heap) (locs : List Loc) (ls : Array Slot), Hs G τ s H locs → lv_has ls 2 [(0, .ref (aG G 42)), (1, .int v1)] → f_Mo_opens_L2 N 42 n τ v1 = some (r, υ) → WV l G (rmG 0 0) p e s m args below meth c υ H locs (F0 m 2 ls []) := by
  intro n
  induction n with
  | zero => intro τ v1 H locs ls hH hl hf; exact nomatch (show (none : OR) = some (r, υ) from hf)
  | succ n ih => intro τ v1 H locs ls hH hl hf; exact b_Mo_opens_42_2b (N := N) X ih hH hl hf
set_option maxHeartbeats 4000000 in
set_option maxRecDepth 100000 in
theorem b_Mo_opens_42_0 {l : Launch} {G : GT} {N : Nat} {p : Program} {e : Env} {s : State} {m : MethodId} {args : Array Value} {below : List Frame} {meth : Method} {c : Code} (X : Cx G p s m args meth c cX11_opens 2 RX11 none) {r : Int32} {υ : Hp} {τ : Hp} {H : Heap} {locs : List Loc} {ls : Array Slot} (hH : Hs G τ s H locs) (hl : lv_has ls 2 [(0, .ref (aG G 42))]) (hf : f_Mo_opens N 42 τ = some (r, υ)) : WV l G (rmG 0 0) p e s m args below meth c υ H locs (F0 m 0 ls []) := by
  have hx := X.hx
  have hb := X.hb
  unfold f_Mo_opens at hf
  refine lv_iconst (v := 0) hx hb dX11_opens_0 (by decide) ?_
  refine lv_istore_n (lv' := [(1, .int 0), (0, .ref (aG G 42))]) hx hb dX11_opens_1 rfl hl (by decide) rfl (fun ls hl => ?_)
  exact b_Mo_opens_42_2 (N := N) X _ _ _ _ _ _ hH (lv_sub hl [1, 0] rfl) hf
theorem c_Mo_opens_42 (l : Launch) (G : GT) {N : Nat} {τ υ : Hp} {r : Int32} (hf : f_Mo_opens N 42 τ = some (r, υ)) : MV l G yX11_opens cX11_opens 2 0 0 [.ref (aG G 42)] τ υ := mk_V (by decide) (Nat.le_of_ble_eq_true rfl) (fun p e s m args below meth c X hH ls hl => b_Mo_opens_42_0 (N := N) X hH (lv_sub hl [0] rfl) hf)
set_option maxHeartbeats 4000000 in
set_option maxRecDepth 100000 in
theorem b_Mo_reachOf_42_21b {l : Launch} {G : GT} {N : Nat} {p : Program} {e : Env} {s : State} {m : MethodId} {args : Array Value} {below : List Frame} {meth : Method} {c : Code} (X : Cx G p s m args meth c cX11_reachOf 6 RX11 (some .int)) {r : Int32} {υ : Hp} {k11 : Hp → Int32 → Int32 → Int32 → OR} (hk11 : ∀ (τ : Hp) (v1 v2 v3 : Int32) (H : Heap) (locs : List Loc) (ls : Array Slot), Hs G τ s H locs → lv_has ls 6 [(0, .ref (aG G 42)), (1, .int v1), (2, .int v2), (3, .int v3)] → k11 τ v1 v2 v3 = some (r, υ) → WI l G (rmG 0 0) p e s m args below meth c r υ H locs (F0 m 11 ls [])) {k21 : Hp → Int32 → Int32 → Int32 → Int32 → OR} (hk21 : ∀ (τ : Hp) (v1 v2 v4 v5 : Int32) (H : Heap) (locs : List Loc) (ls : Array Slot), Hs G τ s H locs → lv_has ls 6 [(0, .ref (aG G 42)), (1, .int v1), (2, .int v2), (4, .int v4), (5, .int v5)] → k21 τ v1 v2 v4 v5 = some (r, υ) → WI l G (rmG 0 0) p e s m args below meth c r υ H locs (F0 m 21 ls [])) {τ : Hp} {v1 v2 v4 v5 : Int32} {H : Heap} {locs : List Loc} {ls : Array Slot} (hH : Hs G τ s H locs) (hl : lv_has ls 6 [(0, .ref (aG G 42)), (1, .int v1), (2, .int v2), (4, .int v4), (5, .int v5)]) (hf : f_Mo_reachOf_L21b N 42 k11 k21 τ v1 v2 v4 v5 = some (r, υ)) : WI l G (rmG 0 0) p e s m args below meth c r υ H locs (F0 m 21 ls []) := by
  have hx := X.hx
  have hb := X.hb
  unfold f_Mo_reachOf_L21b at hf
  refine lv_iload hx hb dX11_reachOf_21 (lv_at hl 4 rfl) ?_
  refine lv_sipush (v := 256) hx hb dX11_reachOf_23 (by decide) ?_
  refine lv_icmp_ge (tgt := 80) hx hb dX11_reachOf_26 (by decide) (fun c1 => ?_) (fun c1 => ?_)
  · have hf := e_t c1 hf
    refine lv_iload_n hx hb dX11_reachOf_80 rfl (lv_at hl 2 rfl) ?_
    refine lv_iload hx hb dX11_reachOf_81 (lv_at hl 3 rfl) ?_
    refine lv_icmp_eq (tgt := 90) hx hb dX11_reachOf_83 (by decide) (fun c2 => ?_) (fun c2 => ?_)
    · have hf := e_t c2 hf
      refine lv_iconst (v := 0) hx hb dX11_reachOf_90 (by decide) ?_
      refine lv_istore_n (lv' := [(3, .int 0), (0, .ref (aG G 42)), (1, .int v1), (2, .int v2), (4, .int v4), (5, .int v5)]) hx hb dX11_reachOf_91 rfl hl (by decide) rfl (fun ls hl => ?_)
      refine lv_goto (tgt := 11) hx hb dX11_reachOf_92 (by decide) ?_
      exact hk11 _ _ _ _ _ _ _ hH (lv_sub hl [1, 2, 3, 0] rfl) hf
    · have hf := e_f c2 hf
      refine lv_iconst (v := 1) hx hb dX11_reachOf_86 (by decide) ?_
      refine lv_goto (tgt := 91) hx hb dX11_reachOf_87 (by decide) ?_
      refine lv_istore_n (lv' := [(3, .int 1), (0, .ref (aG G 42)), (1, .int v1), (2, .int v2), (4, .int v4), (5, .int v5)]) hx hb dX11_reachOf_91 rfl hl (by decide) rfl (fun ls hl => ?_)
      refine lv_goto (tgt := 11) hx hb dX11_reachOf_92 (by decide) ?_
      exact hk11 _ _ _ _ _ _ _ hH (lv_sub hl [1, 2, 3, 0] rfl) hf
  · have hf := e_f c1 hf
    refine lv_aload_n hx hb dX11_reachOf_29 rfl (lv_at hl 0 rfl) ?_
    refine g_get X hH (fa_42_25 G) tw_551 dX11_reachOf_30 ?_
    refine lv_iload hx hb dX11_reachOf_33 (lv_at hl 4 rfl) ?_
    obtain ⟨g3, hf⟩ := e_g hf
    refine z_ld X hH (aa_57 G) g3 dX11_reachOf_35 ?_
    refine lv_if_eq (tgt := 74) hx hb dX11_reachOf_36 (by decide) (fun c4 => ?_) (fun c4 => ?_)
    · have hf := e_t c4 hf
      obtain ⟨x5, ex5, hf⟩ := e_l hf
      refine lv_iinc (v := x5) (lv' := [(5, .int x5), (0, .ref (aG G 42)), (1, .int v1), (2, .int v2), (4, .int v4)]) hx hb dX11_reachOf_74 hl (k := 4) rfl (by rw [ex5]; rfl) (by decide) rfl (fun ls hl => ?_)
      refine lv_goto (tgt := 21) hx hb dX11_reachOf_77 (by decide) ?_
      exact hk21 _ _ _ _ _ _ _ _ hH (lv_sub hl [1, 2, 3, 4, 0] rfl) hf
    · have hf := e_f c4 hf
      refine lv_aload_n hx hb dX11_reachOf_39 rfl (lv_at hl 0 rfl) ?_
      refine g_get X hH (fa_42_27 G) tw_553 dX11_reachOf_40 ?_
      refine lv_iload hx hb dX11_reachOf_43 (lv_at hl 4 rfl) ?_
      obtain ⟨g6, hf⟩ := e_g hf
      refine z_ld X hH (aa_58 G) g6 dX11_reachOf_45 ?_
      refine lv_if_ne (tgt := 74) hx hb dX11_reachOf_46 (by decide) (fun c7 => ?_) (fun c7 => ?_)
      · have hf := e_f c7 hf
        obtain ⟨x8, ex8, hf⟩ := e_l hf
        refine lv_iinc (v := x8) (lv' := [(5, .int x8), (0, .ref (aG G 42)), (1, .int v1), (2, .int v2), (4, .int v4)]) hx hb dX11_reachOf_74 hl (k := 4) rfl (by rw [ex8]; rfl) (by decide) rfl (fun ls hl => ?_)
        refine lv_goto (tgt := 21) hx hb dX11_reachOf_77 (by decide) ?_
        exact hk21 _ _ _ _ _ _ _ _ hH (lv_sub hl [1, 2, 3, 4, 0] rfl) hf
      · have hf := e_t c7 hf
        refine lv_iload_n hx hb dX11_reachOf_49 rfl (lv_at hl 2 rfl) ?_
        refine lv_iload hx hb dX11_reachOf_50 (lv_at hl 4 rfl) ?_
        refine lv_bipush (v := 32) hx hb dX11_reachOf_52 (by decide) ?_
        refine lv_idiv hx hb dX11_reachOf_54 (by decide) ?_
        refine lv_ishr hx hb dX11_reachOf_55 ?_
        refine lv_iconst (v := 1) hx hb dX11_reachOf_56 (by decide) ?_
        refine lv_iand hx hb dX11_reachOf_57 ?_
        refine lv_iconst (v := 1) hx hb dX11_reachOf_58 (by decide) ?_
        refine lv_icmp_ne (tgt := 74) hx hb dX11_reachOf_59 (by decide) (fun c9 => ?_) (fun c9 => ?_)
        · have hf := e_f c9 hf
          obtain ⟨x10, ex10, hf⟩ := e_l hf
          refine lv_iinc (v := x10) (lv' := [(5, .int x10), (0, .ref (aG G 42)), (1, .int v1), (2, .int v2), (4, .int v4)]) hx hb dX11_reachOf_74 hl (k := 4) rfl (by rw [ex10]; rfl) (by decide) rfl (fun ls hl => ?_)
          refine lv_goto (tgt := 21) hx hb dX11_reachOf_77 (by decide) ?_
          exact hk21 _ _ _ _ _ _ _ _ hH (lv_sub hl [1, 2, 3, 4, 0] rfl) hf
        · have hf := e_t c9 hf
          refine lv_iload_n hx hb dX11_reachOf_62 rfl (lv_at hl 2 rfl) ?_
          refine lv_iconst (v := 1) hx hb dX11_reachOf_63 (by decide) ?_
          refine lv_iload hx hb dX11_reachOf_64 (lv_at hl 4 rfl) ?_
          refine lv_iconst (v := 4) hx hb dX11_reachOf_66 (by decide) ?_
          refine lv_idiv hx hb dX11_reachOf_67 (by decide) ?_
          refine lv_bipush (v := 8) hx hb dX11_reachOf_68 (by decide) ?_
          refine lv_irem hx hb dX11_reachOf_70 (by decide) ?_
          refine lv_ishl hx hb dX11_reachOf_71 ?_
          refine lv_ior hx hb dX11_reachOf_72 ?_
          obtain ⟨x11, ex11, hf⟩ := e_l hf
          refine g_nm ex11 ?_
          refine lv_istore_n (lv' := [(2, .int x11), (0, .ref (aG G 42)), (1, .int v1), (4, .int v4), (5, .int v5)]) hx hb dX11_reachOf_73 rfl hl (by decide) rfl (fun ls hl => ?_)
          obtain ⟨x12, ex12, hf⟩ := e_l hf
          refine lv_iinc (v := x12) (lv' := [(5, .int x12), (2, .int x11), (0, .ref (aG G 42)), (1, .int v1), (4, .int v4)]) hx hb dX11_reachOf_74 hl (k := 4) rfl (by rw [ex12]; rfl) (by decide) rfl (fun ls hl => ?_)
          refine lv_goto (tgt := 21) hx hb dX11_reachOf_77 (by decide) ?_
          exact hk21 _ _ _ _ _ _ _ _ hH (lv_sub hl [2, 3, 1, 4, 0] rfl) hf
theorem b_Mo_reachOf_42_21 {l : Launch} {G : GT} {N : Nat} {p : Program} {e : Env} {s : State} {m : MethodId} {args : Array Value} {below : List Frame} {meth : Method} {c : Code} (X : Cx G p s m args meth c cX11_reachOf 6 RX11 (some .int)) {r : Int32} {υ : Hp} {k11 : Hp → Int32 → Int32 → Int32 → OR} (hk11 : ∀ (τ : Hp) (v1 v2 v3 : Int32) (H : Heap) (locs : List Loc) (ls : Array Slot), Hs G τ s H locs → lv_has ls 6 [(0, .ref (aG G 42)), (1, .int v1), (2, .int v2), (3, .int v3)] → k11 τ v1 v2 v3 = some (r, υ) → WI l G (rmG 0 0) p e s m args below meth c r υ H locs (F0 m 11 ls [])) : ∀ (n : Nat) (τ : Hp) (v1 v2 v4 v5 : Int32) (H : Heap) (locs : List Loc) (ls : Array Slot), Hs G τ s H locs → lv_has ls 6 [(0, .ref (aG G 42)), (1, .int v1), (2, .int v2), (4, .int v4), (5, .int v5)] → f_Mo_reachOf_L21 N 42 k11 n τ v1 v2 v4 v5 = some (r, υ) → WI l G (rmG 0 0) p e s m args below meth c r υ H locs (F0 m 21 ls []) := by
  intro n
  induction n with
  | zero => intro τ v1 v2 v4 v5 H locs ls hH hl hf; exact nomatch (show (none : OR) = some (r, υ) from hf)
  | succ n ih => intro τ v1 v2 v4 v5 H locs ls hH hl hf; exact b_Mo_reachOf_42_21b (N := N) X hk11 ih hH hl hf
set_option maxHeartbeats 4000000 in
set_option maxRecDepth 100000 in
theorem b_Mo_reachOf_42_101b {l : Launch} {G : GT} {N : Nat} {p : Program} {e : Env} {s : State} {m : MethodId} {args : Array Value} {below : List Frame} {meth : Method} {c : Code} (X : Cx G p s m args meth c cX11_reachOf 6 RX11 (some .int)) {r : Int32} {υ : Hp} {k101 : Hp → Int32 → Int32 → Int32 → Int32 → OR} (hk101 : ∀ (τ : Hp) (v1 v2 v4 v5 : Int32) (H : Heap) (locs : List Loc) (ls : Array Slot), Hs G τ s H locs → lv_has ls 6 [(0, .ref (aG G 42)), (1, .int v1), (2, .int v2), (4, .int v4), (5, .int v5)] → k101 τ v1 v2 v4 v5 = some (r, υ) → WI l G (rmG 0 0) p e s m args below meth c r υ H locs (F0 m 101 ls [])) {τ : Hp} {v1 v2 v4 v5 : Int32} {H : Heap} {locs : List Loc} {ls : Array Slot} (hH : Hs G τ s H locs) (hl : lv_has ls 6 [(0, .ref (aG G 42)), (1, .int v1), (2, .int v2), (4, .int v4), (5, .int v5)]) (hf : f_Mo_reachOf_L101b N 42 k101 τ v1 v2 v4 v5 = some (r, υ)) : WI l G (rmG 0 0) p e s m args below meth c r υ H locs (F0 m 101 ls []) := by
  have hx := X.hx
  have hb := X.hb
  unfold f_Mo_reachOf_L101b at hf
  refine lv_iload hx hb dX11_reachOf_101 (lv_at hl 4 rfl) ?_
  refine lv_aload_n hx hb dX11_reachOf_103 rfl (lv_at hl 0 rfl) ?_
  refine g_get X hH (fa_42_1 G) tw_527 dX11_reachOf_104 ?_
  refine lv_icmp_ge (tgt := 158) hx hb dX11_reachOf_107 (by decide) (fun c1 => ?_) (fun c1 => ?_)
  · have hf := e_t c1 hf
    refine lv_iload hx hb dX11_reachOf_158 (lv_at hl 3 rfl) ?_
    exact r_i X hH hf dX11_reachOf_160
  · have hf := e_f c1 hf
    refine lv_iload hx hb dX11_reachOf_110 (lv_at hl 3 rfl) ?_
    refine lv_iload hx hb dX11_reachOf_112 (lv_at hl 4 rfl) ?_
    refine lv_iload_n hx hb dX11_reachOf_114 rfl (lv_at hl 1 rfl) ?_
    refine lv_icmp_eq (tgt := 148) hx hb dX11_reachOf_115 (by decide) (fun c2 => ?_) (fun c2 => ?_)
    · have hf := e_t c2 hf
      refine lv_iconst (v := 0) hx hb dX11_reachOf_148 (by decide) ?_
      refine lv_iadd hx hb dX11_reachOf_149 ?_
      obtain ⟨x3, ex3, hf⟩ := e_l hf
      refine g_nm ex3 ?_
      refine lv_istore (lv' := [(4, .int x3), (0, .ref (aG G 42)), (1, .int v1), (2, .int v2), (5, .int v5)]) hx hb dX11_reachOf_150 hl (by decide) rfl (fun ls hl => ?_)
      obtain ⟨x4, ex4, hf⟩ := e_l hf
      refine lv_iinc (v := x4) (lv' := [(5, .int x4), (4, .int x3), (0, .ref (aG G 42)), (1, .int v1), (2, .int v2)]) hx hb dX11_reachOf_152 hl (k := 4) rfl (by rw [ex4]; rfl) (by decide) rfl (fun ls hl => ?_)
      refine lv_goto (tgt := 101) hx hb dX11_reachOf_155 (by decide) ?_
      exact hk101 _ _ _ _ _ _ _ _ hH (lv_sub hl [2, 3, 4, 1, 0] rfl) hf
    · have hf := e_f c2 hf
      refine lv_aload_n hx hb dX11_reachOf_118 rfl (lv_at hl 0 rfl) ?_
      refine g_get X hH (fa_42_3 G) tw_529 dX11_reachOf_119 ?_
      refine lv_iload hx hb dX11_reachOf_122 (lv_at hl 4 rfl) ?_
      obtain ⟨g5, hf⟩ := e_g hf
      refine a_ld X hH (aa_44 G) g5 dX11_reachOf_124 ?_
      refine lv_iconst (v := (-1)) hx hb dX11_reachOf_125 (by decide) ?_
      refine lv_icmp_eq (tgt := 148) hx hb dX11_reachOf_126 (by decide) (fun c6 => ?_) (fun c6 => ?_)
      · have hf := e_t c6 hf
        refine lv_iconst (v := 0) hx hb dX11_reachOf_148 (by decide) ?_
        refine lv_iadd hx hb dX11_reachOf_149 ?_
        obtain ⟨x7, ex7, hf⟩ := e_l hf
        refine g_nm ex7 ?_
        refine lv_istore (lv' := [(4, .int x7), (0, .ref (aG G 42)), (1, .int v1), (2, .int v2), (5, .int v5)]) hx hb dX11_reachOf_150 hl (by decide) rfl (fun ls hl => ?_)
        obtain ⟨x8, ex8, hf⟩ := e_l hf
        refine lv_iinc (v := x8) (lv' := [(5, .int x8), (4, .int x7), (0, .ref (aG G 42)), (1, .int v1), (2, .int v2)]) hx hb dX11_reachOf_152 hl (k := 4) rfl (by rw [ex8]; rfl) (by decide) rfl (fun ls hl => ?_)
        refine lv_goto (tgt := 101) hx hb dX11_reachOf_155 (by decide) ?_
        exact hk101 _ _ _ _ _ _ _ _ hH (lv_sub hl [2, 3, 4, 1, 0] rfl) hf
      · have hf := e_f c6 hf
        refine lv_iload_n hx hb dX11_reachOf_129 rfl (lv_at hl 2 rfl) ?_
        refine lv_aload_n hx hb dX11_reachOf_130 rfl (lv_at hl 0 rfl) ?_
        refine g_get X hH (fa_42_3 G) tw_529 dX11_reachOf_131 ?_
        refine lv_iload hx hb dX11_reachOf_134 (lv_at hl 4 rfl) ?_
        obtain ⟨g9, hf⟩ := e_g hf
        refine a_ld X hH (aa_44 G) g9 dX11_reachOf_136 ?_
        refine lv_ishr hx hb dX11_reachOf_137 ?_
        refine lv_iconst (v := 1) hx hb dX11_reachOf_138 (by decide) ?_
        refine lv_iand hx hb dX11_reachOf_139 ?_
        refine lv_iconst (v := 1) hx hb dX11_reachOf_140 (by decide) ?_
        refine lv_icmp_ne (tgt := 148) hx hb dX11_reachOf_141 (by decide) (fun c10 => ?_) (fun c10 => ?_)
        · have hf := e_f c10 hf
          refine lv_iconst (v := 0) hx hb dX11_reachOf_148 (by decide) ?_
          refine lv_iadd hx hb dX11_reachOf_149 ?_
          obtain ⟨x11, ex11, hf⟩ := e_l hf
          refine g_nm ex11 ?_
          refine lv_istore (lv' := [(4, .int x11), (0, .ref (aG G 42)), (1, .int v1), (2, .int v2), (5, .int v5)]) hx hb dX11_reachOf_150 hl (by decide) rfl (fun ls hl => ?_)
          obtain ⟨x12, ex12, hf⟩ := e_l hf
          refine lv_iinc (v := x12) (lv' := [(5, .int x12), (4, .int x11), (0, .ref (aG G 42)), (1, .int v1), (2, .int v2)]) hx hb dX11_reachOf_152 hl (k := 4) rfl (by rw [ex12]; rfl) (by decide) rfl (fun ls hl => ?_)
          refine lv_goto (tgt := 101) hx hb dX11_reachOf_155 (by decide) ?_
          exact hk101 _ _ _ _ _ _ _ _ hH (lv_sub hl [2, 3, 4, 1, 0] rfl) hf
        · have hf := e_t c10 hf
          refine lv_iconst (v := 1) hx hb dX11_reachOf_144 (by decide) ?_
          refine lv_goto (tgt := 149) hx hb dX11_reachOf_145 (by decide) ?_
          refine lv_iadd hx hb dX11_reachOf_149 ?_
          obtain ⟨x13, ex13, hf⟩ := e_l hf
          refine g_nm ex13 ?_
          refine lv_istore (lv' := [(4, .int x13), (0, .ref (aG G 42)), (1, .int v1), (2, .int v2), (5, .int v5)]) hx hb dX11_reachOf_150 hl (by decide) rfl (fun ls hl => ?_)
          obtain ⟨x14, ex14, hf⟩ := e_l hf
          refine lv_iinc (v := x14) (lv' := [(5, .int x14), (4, .int x13), (0, .ref (aG G 42)), (1, .int v1), (2, .int v2)]) hx hb dX11_reachOf_152 hl (k := 4) rfl (by rw [ex14]; rfl) (by decide) rfl (fun ls hl => ?_)
          refine lv_goto (tgt := 101) hx hb dX11_reachOf_155 (by decide) ?_
          exact hk101 _ _ _ _ _ _ _ _ hH (lv_sub hl [2, 3, 4, 1, 0] rfl) hf
theorem b_Mo_reachOf_42_101 {l : Launch} {G : GT} {N : Nat} {p : Program} {e : Env} {s : State} {m : MethodId} {args : Array Value} {below : List Frame} {meth : Method} {c : Code} (X : Cx G p s m args meth c cX11_reachOf 6 RX11 (some .int)) {r : Int32} {υ : Hp} : ∀ (n : Nat) (τ : Hp) (v1 v2 v4 v5 : Int32) (H : Heap) (locs : List Loc) (ls : Array Slot), Hs G τ s H locs → lv_has ls 6 [(0, .ref (aG G 42)), (1, .int v1), (2, .int v2), (4, .int v4), (5, .int v5)] → f_Mo_reachOf_L101 N 42 n τ v1 v2 v4 v5 = some (r, υ) → WI l G (rmG 0 0) p e s m args below meth c r υ H locs (F0 m 101 ls []) := by
  intro n
  induction n with
  | zero => intro τ v1 v2 v4 v5 H locs ls hH hl hf; exact nomatch (show (none : OR) = some (r, υ) from hf)
  | succ n ih => intro τ v1 v2 v4 v5 H locs ls hH hl hf; exact b_Mo_reachOf_42_101b (N := N) X ih hH hl hf
set_option maxHeartbeats 4000000 in
set_option maxRecDepth 100000 in
theorem b_Mo_reachOf_42_11b {l : Launch} {G : GT} {N : Nat} {p : Program} {e : Env} {s : State} {m : MethodId} {args : Array Value} {below : List Frame} {meth : Method} {c : Code} (X : Cx G p s m args meth c cX11_reachOf 6 RX11 (some .int)) {r : Int32} {υ : Hp} {k11 : Hp → Int32 → Int32 → Int32 → OR} (hk11 : ∀ (τ : Hp) (v1 v2 v3 : Int32) (H : Heap) (locs : List Loc) (ls : Array Slot), Hs G τ s H locs → lv_has ls 6 [(0, .ref (aG G 42)), (1, .int v1), (2, .int v2), (3, .int v3)] → k11 τ v1 v2 v3 = some (r, υ) → WI l G (rmG 0 0) p e s m args below meth c r υ H locs (F0 m 11 ls [])) {τ : Hp} {v1 v2 v3 : Int32} {H : Heap} {locs : List Loc} {ls : Array Slot} (hH : Hs G τ s H locs) (hl : lv_has ls 6 [(0, .ref (aG G 42)), (1, .int v1), (2, .int v2), (3, .int v3)]) (hf : f_Mo_reachOf_L11b N 42 k11 τ v1 v2 v3 = some (r, υ)) : WI l G (rmG 0 0) p e s m args below meth c r υ H locs (F0 m 11 ls []) := by
  have hx := X.hx
  have hb := X.hb
  unfold f_Mo_reachOf_L11b at hf
  refine lv_iload_n hx hb dX11_reachOf_11 rfl (lv_at hl 3 rfl) ?_
  refine lv_if_eq (tgt := 95) hx hb dX11_reachOf_12 (by decide) (fun c1 => ?_) (fun c1 => ?_)
  · have hf := e_t c1 hf
    refine lv_iconst (v := 0) hx hb dX11_reachOf_95 (by decide) ?_
    refine lv_istore (lv' := [(4, .int 0), (0, .ref (aG G 42)), (1, .int v1), (2, .int v2), (3, .int v3)]) hx hb dX11_reachOf_96 hl (by decide) rfl (fun ls hl => ?_)
    refine lv_iconst (v := 0) hx hb dX11_reachOf_98 (by decide) ?_
    refine lv_istore (lv' := [(5, .int 0), (4, .int 0), (0, .ref (aG G 42)), (1, .int v1), (2, .int v2), (3, .int v3)]) hx hb dX11_reachOf_99 hl (by decide) rfl (fun ls hl => ?_)
    exact b_Mo_reachOf_42_101 (N := N) X _ _ _ _ _ _ _ _ _ hH (lv_sub hl [2, 3, 4, 1, 0] rfl) hf
  · have hf := e_f c1 hf
    refine lv_iload_n hx hb dX11_reachOf_15 rfl (lv_at hl 2 rfl) ?_
    refine lv_istore (lv' := [(4, .int v2), (0, .ref (aG G 42)), (1, .int v1), (2, .int v2), (3, .int v3)]) hx hb dX11_reachOf_16 hl (by decide) rfl (fun ls hl => ?_)
    refine lv_iconst (v := 0) hx hb dX11_reachOf_18 (by decide) ?_
    refine lv_istore (lv' := [(5, .int 0), (4, .int v2), (0, .ref (aG G 42)), (1, .int v1), (2, .int v2), (3, .int v3)]) hx hb dX11_reachOf_19 hl (by decide) rfl (fun ls hl => ?_)
    exact b_Mo_reachOf_42_21 (N := N) X hk11 _ _ _ _ _ _ _ _ _ hH (lv_sub hl [2, 3, 4, 1, 0] rfl) hf
theorem b_Mo_reachOf_42_11 {l : Launch} {G : GT} {N : Nat} {p : Program} {e : Env} {s : State} {m : MethodId} {args : Array Value} {below : List Frame} {meth : Method} {c : Code} (X : Cx G p s m args meth c cX11_reachOf 6 RX11 (some .int)) {r : Int32} {υ : Hp} : ∀ (n : Nat) (τ : Hp) (v1 v2 v3 : Int32) (H : Heap) (locs : List Loc) (ls : Array Slot), Hs G τ s H locs → lv_has ls 6 [(0, .ref (aG G 42)), (1, .int v1), (2, .int v2), (3, .int v3)] → f_Mo_reachOf_L11 N 42 n τ v1 v2 v3 = some (r, υ) → WI l G (rmG 0 0) p e s m args below meth c r υ H locs (F0 m 11 ls []) := by
  intro n
  induction n with
  | zero => intro τ v1 v2 v3 H locs ls hH hl hf; exact nomatch (show (none : OR) = some (r, υ) from hf)
  | succ n ih => intro τ v1 v2 v3 H locs ls hH hl hf; exact b_Mo_reachOf_42_11b (N := N) X ih hH hl hf
set_option maxHeartbeats 4000000 in
set_option maxRecDepth 100000 in
theorem b_Mo_reachOf_42_0 {l : Launch} {G : GT} {N : Nat} {p : Program} {e : Env} {s : State} {m : MethodId} {args : Array Value} {below : List Frame} {meth : Method} {c : Code} (X : Cx G p s m args meth c cX11_reachOf 6 RX11 (some .int)) {r : Int32} {υ : Hp} {τ : Hp} {v1 : Int32} {H : Heap} {locs : List Loc} {ls : Array Slot} (hH : Hs G τ s H locs) (hl : lv_has ls 6 [(0, .ref (aG G 42)), (1, .int v1)]) (hf : f_Mo_reachOf N 42 τ v1 = some (r, υ)) : WI l G (rmG 0 0) p e s m args below meth c r υ H locs (F0 m 0 ls []) := by
  have hx := X.hx
  have hb := X.hb
  unfold f_Mo_reachOf at hf
  refine lv_iconst (v := 1) hx hb dX11_reachOf_0 (by decide) ?_
  refine lv_aload_n hx hb dX11_reachOf_1 rfl (lv_at hl 0 rfl) ?_
  refine g_get X hH (fa_42_3 G) tw_529 dX11_reachOf_2 ?_
  refine lv_iload_n hx hb dX11_reachOf_5 rfl (lv_at hl 1 rfl) ?_
  obtain ⟨g1, hf⟩ := e_g hf
  refine a_ld X hH (aa_44 G) g1 dX11_reachOf_6 ?_
  refine lv_ishl hx hb dX11_reachOf_7 ?_
  obtain ⟨x2, ex2, hf⟩ := e_l hf
  refine g_nm ex2 ?_
  refine lv_istore_n (lv' := [(2, .int x2), (0, .ref (aG G 42)), (1, .int v1)]) hx hb dX11_reachOf_8 rfl hl (by decide) rfl (fun ls hl => ?_)
  refine lv_iconst (v := 1) hx hb dX11_reachOf_9 (by decide) ?_
  refine lv_istore_n (lv' := [(3, .int 1), (2, .int x2), (0, .ref (aG G 42)), (1, .int v1)]) hx hb dX11_reachOf_10 rfl hl (by decide) rfl (fun ls hl => ?_)
  exact b_Mo_reachOf_42_11 (N := N) X _ _ _ _ _ _ _ _ hH (lv_sub hl [2, 3, 1, 0] rfl) hf
theorem c_Mo_reachOf_42 (l : Launch) (G : GT) {N : Nat} {τ υ : Hp} {v1 : Int32} {r : Int32} (hf : f_Mo_reachOf N 42 τ v1 = some (r, υ)) : MI l G yX11_reachOf cX11_reachOf 6 (some .int) 0 0 [.ref (aG G 42), .int v1] τ r υ := mk_I (by decide) (Nat.le_of_ble_eq_true rfl) (fun p e s m args below meth c X hH ls hl => b_Mo_reachOf_42_0 (N := N) X hH (lv_sub hl [0, 1] rfl) hf)
set_option maxHeartbeats 4000000 in
set_option maxRecDepth 100000 in
theorem b_Mo_reach_42_0 {l : Launch} {G : GT} {N : Nat} {p : Program} {e : Env} {s : State} {m : MethodId} {args : Array Value} {below : List Frame} {meth : Method} {c : Code} (X : Cx G p s m args meth c cX11_reach 2 RX11 (some .int)) {r : Int32} {υ : Hp} {τ : Hp} {v1 : Int32} {H : Heap} {locs : List Loc} {ls : Array Slot} (hH : Hs G τ s H locs) (hl : lv_has ls 2 [(0, .ref (aG G 42)), (1, .int v1)]) (hf : f_Mo_reach N 42 τ v1 = some (r, υ)) : WI l G (rmG 1 25) p e s m args below meth c r υ H locs (F0 m 0 ls []) := by
  have hx := X.hx
  have hb := X.hb
  unfold f_Mo_reach at hf
  refine lv_aload_n hx hb dX11_reach_0 rfl (lv_at hl 0 rfl) ?_
  refine lv_iconst (v := 0) hx hb dX11_reach_1 (by decide) ?_
  obtain ⟨τ1, eτ1, hf⟩ := e_l hf
  refine g_put X hH (fp_42_0 G) tw_526 rfl rfl dX11_reach_2 (fun H locs hH => ?_)
  have hH : Hs G τ1 s H locs := by rw [eτ1]; exact hH
  refine lv_aload_n hx hb dX11_reach_5 rfl (lv_at hl 0 rfl) ?_
  refine lv_iload_n hx hb dX11_reach_6 rfl (lv_at hl 1 rfl) ?_
  obtain ⟨r2, τ3, hc4, hf⟩ := e_b hf
  refine c_Vi X hH (k := 42) (n := 1) (As := [.int _]) (rest := []) (c_Mo_isHost_42 l G (N := N) hc4) (by decide) rfl rfl tw_618 tw_616 tw_617 tw_770 tw_13 (by decide +kernel) ⟨by decide, by decide⟩ rfl hl.1 rfl (Nat.le_of_ble_eq_true rfl) ⟨Nat.zero_le _, Nat.zero_le _⟩ dX11_reach_7 (fun H locs hH => ?_)
  refine lv_if_eq (tgt := 23) hx hb dX11_reach_10 (by decide) (fun c5 => ?_) (fun c5 => ?_)
  · have hf := e_t c5 hf
    refine lv_iconst (v := (-1)) hx hb dX11_reach_23 (by decide) ?_
    exact r_i X hH hf dX11_reach_24
  · have hf := e_f c5 hf
    refine lv_aload_n hx hb dX11_reach_13 rfl (lv_at hl 0 rfl) ?_
    refine g_get X hH (fa_42_3 G) tw_529 dX11_reach_14 ?_
    refine lv_iload_n hx hb dX11_reach_17 rfl (lv_at hl 1 rfl) ?_
    obtain ⟨g6, hf⟩ := e_g hf
    refine a_ld X hH (aa_44 G) g6 dX11_reach_18 ?_
    refine lv_iconst (v := (-1)) hx hb dX11_reach_19 (by decide) ?_
    refine lv_icmp_ne (tgt := 25) hx hb dX11_reach_20 (by decide) (fun c7 => ?_) (fun c7 => ?_)
    · have hf := e_f c7 hf
      refine lv_aload_n hx hb dX11_reach_25 rfl (lv_at hl 0 rfl) ?_
      obtain ⟨r8, τ9, hc10, hf⟩ := e_b hf
      refine c_Vv X hH (k := 42) (n := 0) (As := []) (rest := []) (c_Mo_opens_42 l G (N := N) hc10) (by decide) rfl rfl tw_708 tw_706 tw_707 tw_784 tw_13 (by decide +kernel) ⟨by decide, by decide⟩ rfl hl.1 rfl (Nat.le_of_ble_eq_true rfl) ⟨Nat.zero_le _, Nat.zero_le _⟩ dX11_reach_26 (fun H locs hH => ?_)
      refine lv_aload_n hx hb dX11_reach_29 rfl (lv_at hl 0 rfl) ?_
      refine lv_iload_n hx hb dX11_reach_30 rfl (lv_at hl 1 rfl) ?_
      obtain ⟨r11, τ12, hc13, hf⟩ := e_b hf
      refine c_Vi X hH (k := 42) (n := 1) (As := [.int _]) (rest := []) (c_Mo_reachOf_42 l G (N := N) hc13) (by decide) rfl rfl tw_711 tw_709 tw_710 tw_785 tw_13 (by decide +kernel) ⟨by decide, by decide⟩ rfl hl.1 rfl (Nat.le_of_ble_eq_true rfl) ⟨Nat.zero_le _, Nat.zero_le _⟩ dX11_reach_31 (fun H locs hH => ?_)
      exact r_i X hH hf dX11_reach_34
    · have hf := e_t c7 hf
      refine lv_iconst (v := (-1)) hx hb dX11_reach_23 (by decide) ?_
      exact r_i X hH hf dX11_reach_24
theorem c_Mo_reach_42 (l : Launch) (G : GT) {N : Nat} {τ υ : Hp} {v1 : Int32} {r : Int32} (hf : f_Mo_reach N 42 τ v1 = some (r, υ)) : MI l G yX11_reach cX11_reach 2 (some .int) 1 25 [.ref (aG G 42), .int v1] τ r υ := mk_I (by decide) (Nat.le_of_ble_eq_true rfl) (fun p e s m args below meth c X hH ls hl => b_Mo_reach_42_0 (N := N) X hH (lv_sub hl [0, 1] rfl) hf)
set_option maxHeartbeats 4000000 in
set_option maxRecDepth 100000 in
theorem b_Sp_widest_27_4b {l : Launch} {G : GT} {N : Nat} {p : Program} {e : Env} {s : State} {m : MethodId} {args : Array Value} {below : List Frame} {meth : Method} {c : Code} (X : Cx G p s m args meth c cX9_widest 3 RX9 (some .int)) {r : Int32} {υ : Hp} {k4 : Hp → Int32 → Int32 → OR} (hk4 : ∀ (τ : Hp) (v1 v2 : Int32) (H : Heap) (locs : List Loc) (ls : Array Slot), Hs G τ s H locs → lv_has ls 3 [(0, .ref (aG G 27)), (1, .int v1), (2, .int v2)] → k4 τ v1 v2 = some (r, υ) → WI l G (rmG 1 23) p e s m args below meth c r υ H locs (F0 m 4 ls [])) {τ : Hp} {v1 v2 : Int32} {H : Heap} {locs : List Loc} {ls : Array Slot} (hH : Hs G τ s H locs) (hl : lv_has ls 3 [(0, .ref (aG G 27)), (1, .int v1), (2, .int v2)]) (hf : f_Sp_widest_L4b N 27 k4 τ v1 v2 = some (r, υ)) : WI l G (rmG 1 23) p e s m args below meth c r υ H locs (F0 m 4 ls []) := by
  have hx := X.hx
  have hb := X.hb
  unfold f_Sp_widest_L4b at hf
  refine lv_iload_n hx hb dX9_widest_4 rfl (lv_at hl 2 rfl) ?_
  refine lv_aload_n hx hb dX9_widest_5 rfl (lv_at hl 0 rfl) ?_
  refine g_get X hH (fa_27_2 G) tw_137 dX9_widest_6 ?_
  refine lv_icmp_ge (tgt := 28) hx hb dX9_widest_9 (by decide) (fun c1 => ?_) (fun c1 => ?_)
  · have hf := e_t c1 hf
    refine lv_iload_n hx hb dX9_widest_28 rfl (lv_at hl 1 rfl) ?_
    exact r_i X hH hf dX9_widest_29
  · have hf := e_f c1 hf
    refine lv_iload_n hx hb dX9_widest_12 rfl (lv_at hl 1 rfl) ?_
    refine lv_aload_n hx hb dX9_widest_13 rfl (lv_at hl 0 rfl) ?_
    refine lv_iload_n hx hb dX9_widest_14 rfl (lv_at hl 2 rfl) ?_
    obtain ⟨r2, τ3, hc4, hf⟩ := e_b hf
    refine c_Vi X hH (k := 27) (n := 1) (As := [.int _]) (rest := [.int _]) (c_Sp_othersFrom_27 l G (N := N) hc4) (by decide) rfl rfl tw_441 tw_450 tw_439 tw_440 tw_10 (by decide +kernel) ⟨by decide, by decide⟩ rfl hl.1 rfl (Nat.le_of_ble_eq_true rfl) ⟨Nat.zero_le _, Nat.zero_le _⟩ dX9_widest_15 (fun H locs hH => ?_)
    refine g_max X hl.1.symm tw_451 tw_338 tw_16 tw_339 (by decide) (Nat.le_of_ble_eq_true rfl) ⟨Nat.zero_le _, Nat.zero_le _⟩ dX9_widest_18 ?_
    obtain ⟨x5, ex5, hf⟩ := e_l hf
    refine g_nm ex5 ?_
    refine lv_istore_n (lv' := [(1, .int x5), (0, .ref (aG G 27)), (2, .int v2)]) hx hb dX9_widest_21 rfl hl (by decide) rfl (fun ls hl => ?_)
    obtain ⟨x6, ex6, hf⟩ := e_l hf
    refine lv_iinc (v := x6) (lv' := [(2, .int x6), (1, .int x5), (0, .ref (aG G 27))]) hx hb dX9_widest_22 hl (k := 2) rfl (by rw [ex6]; rfl) (by decide) rfl (fun ls hl => ?_)
    refine lv_goto (tgt := 4) hx hb dX9_widest_25 (by decide) ?_
    exact hk4 _ _ _ _ _ _ hH (lv_sub hl [2, 1, 0] rfl) hf
theorem b_Sp_widest_27_4 {l : Launch} {G : GT} {N : Nat} {p : Program} {e : Env} {s : State} {m : MethodId} {args : Array Value} {below : List Frame} {meth : Method} {c : Code} (X : Cx G p s m args meth c cX9_widest 3 RX9 (some .int)) {r : Int32} {υ : Hp} : ∀ (n : Nat) (τ : Hp) (v1 v2 : Int32) (H : Heap) (locs : List Loc) (ls : Array Slot), Hs G τ s H locs → lv_has ls 3 [(0, .ref (aG G 27)), (1, .int v1), (2, .int v2)] → f_Sp_widest_L4 N 27 n τ v1 v2 = some (r, υ) → WI l G (rmG 1 23) p e s m args below meth c r υ H locs (F0 m 4 ls []) := by
  intro n
  induction n with
  | zero => intro τ v1 v2 H locs ls hH hl hf; exact nomatch (show (none : OR) = some (r, υ) from hf)
  | succ n ih => intro τ v1 v2 H locs ls hH hl hf; exact b_Sp_widest_27_4b (N := N) X ih hH hl hf
set_option maxHeartbeats 4000000 in
set_option maxRecDepth 100000 in
theorem b_Sp_widest_27_0 {l : Launch} {G : GT} {N : Nat} {p : Program} {e : Env} {s : State} {m : MethodId} {args : Array Value} {below : List Frame} {meth : Method} {c : Code} (X : Cx G p s m args meth c cX9_widest 3 RX9 (some .int)) {r : Int32} {υ : Hp} {τ : Hp} {H : Heap} {locs : List Loc} {ls : Array Slot} (hH : Hs G τ s H locs) (hl : lv_has ls 3 [(0, .ref (aG G 27))]) (hf : f_Sp_widest N 27 τ = some (r, υ)) : WI l G (rmG 1 23) p e s m args below meth c r υ H locs (F0 m 0 ls []) := by
  have hx := X.hx
  have hb := X.hb
  unfold f_Sp_widest at hf
  refine lv_iconst (v := (-1)) hx hb dX9_widest_0 (by decide) ?_
  refine lv_istore_n (lv' := [(1, .int (-1)), (0, .ref (aG G 27))]) hx hb dX9_widest_1 rfl hl (by decide) rfl (fun ls hl => ?_)
  refine lv_iconst (v := 0) hx hb dX9_widest_2 (by decide) ?_
  refine lv_istore_n (lv' := [(2, .int 0), (1, .int (-1)), (0, .ref (aG G 27))]) hx hb dX9_widest_3 rfl hl (by decide) rfl (fun ls hl => ?_)
  exact b_Sp_widest_27_4 (N := N) X _ _ _ _ _ _ _ hH (lv_sub hl [2, 1, 0] rfl) hf
theorem c_Sp_widest_27 (l : Launch) (G : GT) {N : Nat} {τ υ : Hp} {r : Int32} (hf : f_Sp_widest N 27 τ = some (r, υ)) : MI l G yX9_widest cX9_widest 3 (some .int) 1 23 [.ref (aG G 27)] τ r υ := mk_I (by decide) (Nat.le_of_ble_eq_true rfl) (fun p e s m args below meth c X hH ls hl => b_Sp_widest_27_0 (N := N) X hH (lv_sub hl [0] rfl) hf)
set_option maxHeartbeats 4000000 in
set_option maxRecDepth 100000 in
theorem b_Sp_firstWith_27_11_2b {l : Launch} {G : GT} {N : Nat} {p : Program} {e : Env} {s : State} {m : MethodId} {args : Array Value} {below : List Frame} {meth : Method} {c : Code} (X : Cx G p s m args meth c cX9_firstWith 4 RX9 (some .int)) {r : Int32} {υ : Hp} {k2 : Hp → Int32 → Int32 → OR} (hk2 : ∀ (τ : Hp) (v1 v3 : Int32) (H : Heap) (locs : List Loc) (ls : Array Slot), Hs G τ s H locs → lv_has ls 4 [(0, .ref (aG G 27)), (1, .int v1), (2, .ref (aG G 11)), (3, .int v3)] → k2 τ v1 v3 = some (r, υ) → WI l G (rmG 1 23) p e s m args below meth c r υ H locs (F0 m 2 ls [])) {τ : Hp} {v1 v3 : Int32} {H : Heap} {locs : List Loc} {ls : Array Slot} (hH : Hs G τ s H locs) (hl : lv_has ls 4 [(0, .ref (aG G 27)), (1, .int v1), (2, .ref (aG G 11)), (3, .int v3)]) (hf : f_Sp_firstWith_L2b N 27 11 k2 τ v1 v3 = some (r, υ)) : WI l G (rmG 1 23) p e s m args below meth c r υ H locs (F0 m 2 ls []) := by
  have hx := X.hx
  have hb := X.hb
  unfold f_Sp_firstWith_L2b at hf
  refine lv_iload_n hx hb dX9_firstWith_2 rfl (lv_at hl 3 rfl) ?_
  refine lv_bipush (v := 8) hx hb dX9_firstWith_3 (by decide) ?_
  refine lv_icmp_ge (tgt := 40) hx hb dX9_firstWith_5 (by decide) (fun c1 => ?_) (fun c1 => ?_)
  · have hf := e_t c1 hf
    refine lv_iconst (v := (-1)) hx hb dX9_firstWith_40 (by decide) ?_
    exact r_i X hH hf dX9_firstWith_41
  · have hf := e_f c1 hf
    refine lv_aload_n hx hb dX9_firstWith_8 rfl (lv_at hl 2 rfl) ?_
    refine g_getN X hH (fa_11_0 G) 23 rfl dX9_firstWith_9 ?_
    refine lv_iload_n hx hb dX9_firstWith_12 rfl (lv_at hl 3 rfl) ?_
    obtain ⟨g2, hf⟩ := e_g hf
    refine a_ld X hH (aa_12 G) g2 dX9_firstWith_13 ?_
    refine lv_iconst (v := (-1)) hx hb dX9_firstWith_14 (by decide) ?_
    refine lv_icmp_eq (tgt := 34) hx hb dX9_firstWith_15 (by decide) (fun c3 => ?_) (fun c3 => ?_)
    · have hf := e_t c3 hf
      obtain ⟨x4, ex4, hf⟩ := e_l hf
      refine lv_iinc (v := x4) (lv' := [(3, .int x4), (0, .ref (aG G 27)), (1, .int v1), (2, .ref (aG G 11))]) hx hb dX9_firstWith_34 hl (k := 3) rfl (by rw [ex4]; rfl) (by decide) rfl (fun ls hl => ?_)
      refine lv_goto (tgt := 2) hx hb dX9_firstWith_37 (by decide) ?_
      exact hk2 _ _ _ _ _ _ hH (lv_sub hl [1, 2, 3, 0] rfl) hf
    · have hf := e_f c3 hf
      refine lv_aload_n hx hb dX9_firstWith_18 rfl (lv_at hl 0 rfl) ?_
      refine lv_aload_n hx hb dX9_firstWith_19 rfl (lv_at hl 2 rfl) ?_
      refine g_getN X hH (fa_11_0 G) 23 rfl dX9_firstWith_20 ?_
      refine lv_iload_n hx hb dX9_firstWith_23 rfl (lv_at hl 3 rfl) ?_
      obtain ⟨g5, hf⟩ := e_g hf
      refine a_ld X hH (aa_12 G) g5 dX9_firstWith_24 ?_
      obtain ⟨r6, τ7, hc8, hf⟩ := e_b hf
      refine c_Vi X hH (k := 27) (n := 1) (As := [.int _]) (rest := []) (c_Sp_othersFrom_27 l G (N := N) hc8) (by decide) rfl rfl tw_441 tw_450 tw_439 tw_440 tw_10 (by decide +kernel) ⟨by decide, by decide⟩ rfl hl.1 rfl (Nat.le_of_ble_eq_true rfl) ⟨Nat.zero_le _, Nat.zero_le _⟩ dX9_firstWith_25 (fun H locs hH => ?_)
      refine lv_iload_n hx hb dX9_firstWith_28 rfl (lv_at hl 1 rfl) ?_
      refine lv_icmp_ne (tgt := 34) hx hb dX9_firstWith_29 (by decide) (fun c9 => ?_) (fun c9 => ?_)
      · have hf := e_f c9 hf
        obtain ⟨x10, ex10, hf⟩ := e_l hf
        refine lv_iinc (v := x10) (lv' := [(3, .int x10), (0, .ref (aG G 27)), (1, .int v1), (2, .ref (aG G 11))]) hx hb dX9_firstWith_34 hl (k := 3) rfl (by rw [ex10]; rfl) (by decide) rfl (fun ls hl => ?_)
        refine lv_goto (tgt := 2) hx hb dX9_firstWith_37 (by decide) ?_
        exact hk2 _ _ _ _ _ _ hH (lv_sub hl [1, 2, 3, 0] rfl) hf
      · have hf := e_t c9 hf
        refine lv_iload_n hx hb dX9_firstWith_32 rfl (lv_at hl 3 rfl) ?_
        exact r_i X hH hf dX9_firstWith_33
theorem b_Sp_firstWith_27_11_2 {l : Launch} {G : GT} {N : Nat} {p : Program} {e : Env} {s : State} {m : MethodId} {args : Array Value} {below : List Frame} {meth : Method} {c : Code} (X : Cx G p s m args meth c cX9_firstWith 4 RX9 (some .int)) {r : Int32} {υ : Hp} : ∀ (n : Nat) (τ : Hp) (v1 v3 : Int32) (H : Heap) (locs : List Loc) (ls : Array Slot), Hs G τ s H locs → lv_has ls 4 [(0, .ref (aG G 27)), (1, .int v1), (2, .ref (aG G 11)), (3, .int v3)] → f_Sp_firstWith_L2 N 27 11 n τ v1 v3 = some (r, υ) → WI l G (rmG 1 23) p e s m args below meth c r υ H locs (F0 m 2 ls []) := by
  intro n
  induction n with
  | zero => intro τ v1 v3 H locs ls hH hl hf; exact nomatch (show (none : OR) = some (r, υ) from hf)
  | succ n ih => intro τ v1 v3 H locs ls hH hl hf; exact b_Sp_firstWith_27_11_2b (N := N) X ih hH hl hf
set_option maxHeartbeats 4000000 in
set_option maxRecDepth 100000 in
theorem b_Sp_firstWith_27_11_0 {l : Launch} {G : GT} {N : Nat} {p : Program} {e : Env} {s : State} {m : MethodId} {args : Array Value} {below : List Frame} {meth : Method} {c : Code} (X : Cx G p s m args meth c cX9_firstWith 4 RX9 (some .int)) {r : Int32} {υ : Hp} {τ : Hp} {v1 : Int32} {H : Heap} {locs : List Loc} {ls : Array Slot} (hH : Hs G τ s H locs) (hl : lv_has ls 4 [(0, .ref (aG G 27)), (1, .int v1), (2, .ref (aG G 11))]) (hf : f_Sp_firstWith N 27 11 τ v1 = some (r, υ)) : WI l G (rmG 1 23) p e s m args below meth c r υ H locs (F0 m 0 ls []) := by
  have hx := X.hx
  have hb := X.hb
  unfold f_Sp_firstWith at hf
  refine lv_iconst (v := 0) hx hb dX9_firstWith_0 (by decide) ?_
  refine lv_istore_n (lv' := [(3, .int 0), (0, .ref (aG G 27)), (1, .int v1), (2, .ref (aG G 11))]) hx hb dX9_firstWith_1 rfl hl (by decide) rfl (fun ls hl => ?_)
  exact b_Sp_firstWith_27_11_2 (N := N) X _ _ _ _ _ _ _ hH (lv_sub hl [1, 2, 3, 0] rfl) hf
theorem c_Sp_firstWith_27_11 (l : Launch) (G : GT) {N : Nat} {τ υ : Hp} {v1 : Int32} {r : Int32} (hf : f_Sp_firstWith N 27 11 τ v1 = some (r, υ)) : MI l G yX9_firstWith cX9_firstWith 4 (some .int) 1 23 [.ref (aG G 27), .int v1, .ref (aG G 11)] τ r υ := mk_I (by decide) (Nat.le_of_ble_eq_true rfl) (fun p e s m args below meth c X hH ls hl => b_Sp_firstWith_27_11_0 (N := N) X hH (lv_sub hl [0, 1, 2] rfl) hf)
set_option maxHeartbeats 4000000 in
set_option maxRecDepth 100000 in
theorem b_WP_spread_0_0 {l : Launch} {G : GT} {N : Nat} {p : Program} {e : Env} {s : State} {m : MethodId} {args : Array Value} {below : List Frame} {meth : Method} {c : Code} (X : Cx G p s m args meth c cX10_spread 3 RX10 (some .int)) {r : Int32} {υ : Hp} {τ : Hp} {v1 : Int32} {H : Heap} {locs : List Loc} {ls : Array Slot} (hH : Hs G τ s H locs) (hl : lv_has ls 3 [(0, .ref (aG G 0)), (1, .int v1)]) (hf : f_WP_spread N 0 τ v1 = some (r, υ)) : WI l G (rmG 4 87) p e s m args below meth c r υ H locs (F0 m 0 ls []) := by
  have hx := X.hx
  have hb := X.hb
  unfold f_WP_spread at hf
  refine lv_aload_n hx hb dX10_spread_0 rfl (lv_at hl 0 rfl) ?_
  refine g_get X hH (fa_0_3 G) tw_177 dX10_spread_1 ?_
  refine g_getN X hH (fa_10_5 G) 47 rfl dX10_spread_4 ?_
  refine lv_if_eq (tgt := 19) hx hb dX10_spread_7 (by decide) (fun c1 => ?_) (fun c1 => ?_)
  · have hf := e_t c1 hf
    refine lv_iconst (v := (-1)) hx hb dX10_spread_19 (by decide) ?_
    exact r_i X hH hf dX10_spread_20
  · have hf := e_f c1 hf
    refine lv_iload_n hx hb dX10_spread_10 rfl (lv_at hl 1 rfl) ?_
    refine lv_iconst (v := 0) hx hb dX10_spread_11 (by decide) ?_
    refine lv_iconst (v := 1) hx hb dX10_spread_12 (by decide) ?_
    obtain ⟨r2, τ3, hc4, hf⟩ := e_b hf
    refine c_Si X hH (n := 3) (As := [.int _, .int _, .int _]) (rest := []) (c_WP_isBetween l G (N := N) hc4) tw_198 tw_196 tw_197 tw_1 (by decide +kernel) ⟨by decide, by decide⟩ rfl hl.1 rfl (Nat.le_of_ble_eq_true rfl) ⟨Nat.zero_le _, Nat.zero_le _⟩ dX10_spread_13 (fun H locs hH => ?_)
    refine lv_if_ne (tgt := 21) hx hb dX10_spread_16 (by decide) (fun c5 => ?_) (fun c5 => ?_)
    · have hf := e_f c5 hf
      refine lv_aload_n hx hb dX10_spread_21 rfl (lv_at hl 0 rfl) ?_
      refine g_get X hH (fa_0_6 G) tw_180 dX10_spread_22 ?_
      refine lv_aload_n hx hb dX10_spread_25 rfl (lv_at hl 0 rfl) ?_
      refine g_get X hH (fa_0_3 G) tw_177 dX10_spread_26 ?_
      obtain ⟨r6, τ7, hc8, hf⟩ := e_b hf
      refine c_Vv X hH (k := 27) (n := 1) (As := [.ref (aG G 10)]) (rest := []) (c_Sp_follow_27_10 l G (N := N) hc8) (by decide) rfl rfl tw_420 tw_417 tw_418 tw_419 tw_10 (by decide +kernel) ⟨by decide, by decide⟩ rfl hl.1 rfl (Nat.le_of_ble_eq_true rfl) ⟨Nat.zero_le _, Nat.zero_le _⟩ dX10_spread_29 (fun H locs hH => ?_)
      refine lv_aload_n hx hb dX10_spread_32 rfl (lv_at hl 0 rfl) ?_
      refine g_get X hH (fa_0_6 G) tw_180 dX10_spread_33 ?_
      obtain ⟨r9, τ10, hc11, hf⟩ := e_b hf
      refine c_Vi X hH (k := 27) (n := 0) (As := []) (rest := []) (c_Sp_widest_27 l G (N := N) hc11) (by decide) rfl rfl tw_449 tw_446 tw_447 tw_448 tw_10 (by decide +kernel) ⟨by decide, by decide⟩ rfl hl.1 rfl (Nat.le_of_ble_eq_true rfl) ⟨Nat.zero_le _, Nat.zero_le _⟩ dX10_spread_36 (fun H locs hH => ?_)
      refine lv_istore_n (lv' := [(2, .int r9), (0, .ref (aG G 0)), (1, .int v1)]) hx hb dX10_spread_39 rfl hl (by decide) rfl (fun ls hl => ?_)
      refine lv_iload_n hx hb dX10_spread_40 rfl (lv_at hl 2 rfl) ?_
      refine lv_if_ne (tgt := 48) hx hb dX10_spread_41 (by decide) (fun c12 => ?_) (fun c12 => ?_)
      · have hf := e_f c12 hf
        refine lv_aload_n hx hb dX10_spread_48 rfl (lv_at hl 1 rfl) ?_
        refine g_get X hH (fa_0_6 G) tw_180 dX10_spread_49 ?_
        refine lv_iload_n hx hb dX10_spread_52 rfl (lv_at hl 0 rfl) ?_
        refine lv_aload_n hx hb dX10_spread_53 rfl (lv_at hl 1 rfl) ?_
        refine g_get X hH (fa_0_3 G) tw_177 dX10_spread_54 ?_
        refine g_getN X hH (fa_10_0 G) 39 rfl dX10_spread_57 ?_
        obtain ⟨r13, τ14, hc15, hf⟩ := e_b hf
        refine c_Vi X hH (k := 27) (n := 2) (As := [.int _, .ref (aG G 11)]) (rest := []) (c_Sp_firstWith_27_11 l G (N := N) hc15) (by decide) rfl rfl tw_455 tw_452 tw_453 tw_454 tw_10 (by decide +kernel) ⟨by decide, by decide⟩ rfl hl.1 rfl (Nat.le_of_ble_eq_true rfl) ⟨Nat.zero_le _, Nat.zero_le _⟩ dX10_spread_60 (fun H locs hH => ?_)
        exact r_i X hH hf dX10_spread_63
      · have hf := e_t c12 hf
        refine lv_iload_n hx hb dX10_spread_44 rfl (lv_at hl 0 rfl) ?_
        refine lv_goto (tgt := 63) hx hb dX10_spread_45 (by decide) ?_
        exact r_i X hH hf dX10_spread_63
    · have hf := e_t c5 hf
      refine lv_iconst (v := (-1)) hx hb dX10_spread_19 (by decide) ?_
      exact r_i X hH hf dX10_spread_20
theorem c_WP_spread_0 (l : Launch) (G : GT) {N : Nat} {τ υ : Hp} {v1 : Int32} {r : Int32} (hf : f_WP_spread N 0 τ v1 = some (r, υ)) : MI l G yX10_spread cX10_spread 3 (some .int) 4 87 [.ref (aG G 0), .int v1] τ r υ := mk_I (by decide) (Nat.le_of_ble_eq_true rfl) (fun p e s m args below meth c X hH ls hl => b_WP_spread_0_0 (N := N) X hH (lv_sub hl [0, 1] rfl) hf)
set_option maxHeartbeats 4000000 in
set_option maxRecDepth 100000 in
theorem b_Mo_spreads_42_9b {l : Launch} {G : GT} {N : Nat} {p : Program} {e : Env} {s : State} {m : MethodId} {args : Array Value} {below : List Frame} {meth : Method} {c : Code} (X : Cx G p s m args meth c cX11_spreads 4 RX11 (some .int)) {r : Int32} {υ : Hp} {k9 : Hp → Int32 → Int32 → OR} (hk9 : ∀ (τ : Hp) (v1 v2 : Int32) (H : Heap) (locs : List Loc) (ls : Array Slot), Hs G τ s H locs → lv_has ls 4 [(0, .ref (aG G 42)), (1, .int v1), (2, .int v2)] → k9 τ v1 v2 = some (r, υ) → WI l G (rmG 1 25) p e s m args below meth c r υ H locs (F0 m 9 ls [])) {τ : Hp} {v1 v2 : Int32} {H : Heap} {locs : List Loc} {ls : Array Slot} (hH : Hs G τ s H locs) (hl : lv_has ls 4 [(0, .ref (aG G 42)), (1, .int v1), (2, .int v2)]) (hf : f_Mo_spreads_L9b N 42 k9 τ v1 v2 = some (r, υ)) : WI l G (rmG 1 25) p e s m args below meth c r υ H locs (F0 m 9 ls []) := by
  have hx := X.hx
  have hb := X.hb
  unfold f_Mo_spreads_L9b at hf
  refine lv_iload_n hx hb dX11_spreads_9 rfl (lv_at hl 2 rfl) ?_
  refine lv_aload_n hx hb dX11_spreads_10 rfl (lv_at hl 0 rfl) ?_
  refine g_get X hH (fa_42_1 G) tw_527 dX11_spreads_11 ?_
  refine lv_icmp_ge (tgt := 57) hx hb dX11_spreads_14 (by decide) (fun c1 => ?_) (fun c1 => ?_)
  · have hf := e_t c1 hf
    refine lv_iload_n hx hb dX11_spreads_57 rfl (lv_at hl 1 rfl) ?_
    exact r_i X hH hf dX11_spreads_58
  · have hf := e_f c1 hf
    refine lv_aload_n hx hb dX11_spreads_17 rfl (lv_at hl 0 rfl) ?_
    refine g_get X hH (fa_42_3 G) tw_529 dX11_spreads_18 ?_
    refine lv_iload_n hx hb dX11_spreads_21 rfl (lv_at hl 2 rfl) ?_
    obtain ⟨g2, hf⟩ := e_g hf
    refine a_ld X hH (aa_44 G) g2 dX11_spreads_22 ?_
    refine lv_iconst (v := (-1)) hx hb dX11_spreads_23 (by decide) ?_
    refine lv_icmp_ne (tgt := 30) hx hb dX11_spreads_24 (by decide) (fun c3 => ?_) (fun c3 => ?_)
    · have hf := e_f c3 hf
      refine lv_aload_n hx hb dX11_spreads_30 rfl (lv_at hl 0 rfl) ?_
      refine lv_iload_n hx hb dX11_spreads_31 rfl (lv_at hl 2 rfl) ?_
      obtain ⟨r4, τ5, hc6, hf⟩ := e_b hf
      refine c_Vi X hH (k := 42) (n := 1) (As := [.int _]) (rest := []) (c_Mo_reachOf_42 l G (N := N) hc6) (by decide) rfl rfl tw_711 tw_709 tw_710 tw_785 tw_13 (by decide +kernel) ⟨by decide, by decide⟩ rfl hl.1 rfl (Nat.le_of_ble_eq_true rfl) ⟨Nat.zero_le _, Nat.zero_le _⟩ dX11_spreads_32 (fun H locs hH => ?_)
      refine lv_istore_n (lv' := [(3, .int r4), (0, .ref (aG G 42)), (1, .int v1), (2, .int v2)]) hx hb dX11_spreads_35 rfl hl (by decide) rfl (fun ls hl => ?_)
      refine lv_iload_n hx hb dX11_spreads_36 rfl (lv_at hl 0 rfl) ?_
      refine lv_iload_n hx hb dX11_spreads_37 rfl (lv_at hl 2 rfl) ?_
      refine lv_icmp_gt (tgt := 44) hx hb dX11_spreads_38 (by decide) (fun c7 => ?_) (fun c7 => ?_)
      · have hf := e_t c7 hf
        refine lv_iload_n hx hb dX11_spreads_44 rfl (lv_at hl 0 rfl) ?_
        refine lv_istore_n (lv' := [(1, .int r4), (3, .int r4), (0, .ref (aG G 42)), (2, .int v2)]) hx hb dX11_spreads_45 rfl hl (by decide) rfl (fun ls hl => ?_)
        refine lv_aload_n hx hb dX11_spreads_46 rfl (lv_at hl 2 rfl) ?_
        refine lv_iload_n hx hb dX11_spreads_47 rfl (lv_at hl 3 rfl) ?_
        obtain ⟨τ8, eτ8, hf⟩ := e_l hf
        refine g_put X hH (fp_42_28 G) tw_554 rfl rfl dX11_spreads_48 (fun H locs hH => ?_)
        have hH : Hs G τ8 s H locs := by rw [eτ8]; exact hH
        obtain ⟨x9, ex9, hf⟩ := e_l hf
        refine lv_iinc (v := x9) (lv' := [(2, .int x9), (1, .int r4), (3, .int r4), (0, .ref (aG G 42))]) hx hb dX11_spreads_51 hl (k := 3) rfl (by rw [ex9]; rfl) (by decide) rfl (fun ls hl => ?_)
        refine lv_goto (tgt := 9) hx hb dX11_spreads_54 (by decide) ?_
        exact hk9 _ _ _ _ _ _ hH (lv_sub hl [3, 1, 0] rfl) hf
      · have hf := e_f c7 hf
        refine lv_goto (tgt := 51) hx hb dX11_spreads_41 (by decide) ?_
        obtain ⟨x10, ex10, hf⟩ := e_l hf
        refine lv_iinc (v := x10) (lv' := [(2, .int x10), (3, .int r4), (0, .ref (aG G 42)), (1, .int v1)]) hx hb dX11_spreads_51 hl (k := 3) rfl (by rw [ex10]; rfl) (by decide) rfl (fun ls hl => ?_)
        refine lv_goto (tgt := 9) hx hb dX11_spreads_54 (by decide) ?_
        exact hk9 _ _ _ _ _ _ hH (lv_sub hl [2, 3, 0] rfl) hf
    · have hf := e_t c3 hf
      refine lv_goto (tgt := 51) hx hb dX11_spreads_27 (by decide) ?_
      obtain ⟨x11, ex11, hf⟩ := e_l hf
      refine lv_iinc (v := x11) (lv' := [(2, .int x11), (0, .ref (aG G 42)), (1, .int v1)]) hx hb dX11_spreads_51 hl (k := 2) rfl (by rw [ex11]; rfl) (by decide) rfl (fun ls hl => ?_)
      refine lv_goto (tgt := 9) hx hb dX11_spreads_54 (by decide) ?_
      exact hk9 _ _ _ _ _ _ hH (lv_sub hl [1, 2, 0] rfl) hf
theorem b_Mo_spreads_42_9 {l : Launch} {G : GT} {N : Nat} {p : Program} {e : Env} {s : State} {m : MethodId} {args : Array Value} {below : List Frame} {meth : Method} {c : Code} (X : Cx G p s m args meth c cX11_spreads 4 RX11 (some .int)) {r : Int32} {υ : Hp} : ∀ (n : Nat) (τ : Hp) (v1 v2 : Int32) (H : Heap) (locs : List Loc) (ls : Array Slot), Hs G τ s H locs → lv_has ls 4 [(0, .ref (aG G 42)), (1, .int v1), (2, .int v2)] → f_Mo_spreads_L9 N 42 n τ v1 v2 = some (r, υ) → WI l G (rmG 1 25) p e s m args below meth c r υ H locs (F0 m 9 ls []) := by
  intro n
  induction n with
  | zero => intro τ v1 v2 H locs ls hH hl hf; exact nomatch (show (none : OR) = some (r, υ) from hf)
  | succ n ih => intro τ v1 v2 H locs ls hH hl hf; exact b_Mo_spreads_42_9b (N := N) X ih hH hl hf
set_option maxHeartbeats 4000000 in
set_option maxRecDepth 100000 in
theorem b_Mo_spreads_42_0 {l : Launch} {G : GT} {N : Nat} {p : Program} {e : Env} {s : State} {m : MethodId} {args : Array Value} {below : List Frame} {meth : Method} {c : Code} (X : Cx G p s m args meth c cX11_spreads 4 RX11 (some .int)) {r : Int32} {υ : Hp} {τ : Hp} {H : Heap} {locs : List Loc} {ls : Array Slot} (hH : Hs G τ s H locs) (hl : lv_has ls 4 [(0, .ref (aG G 42))]) (hf : f_Mo_spreads N 42 τ = some (r, υ)) : WI l G (rmG 1 25) p e s m args below meth c r υ H locs (F0 m 0 ls []) := by
  have hx := X.hx
  have hb := X.hb
  unfold f_Mo_spreads at hf
  refine lv_iconst (v := (-1)) hx hb dX11_spreads_0 (by decide) ?_
  refine lv_istore_n (lv' := [(1, .int (-1)), (0, .ref (aG G 42))]) hx hb dX11_spreads_1 rfl hl (by decide) rfl (fun ls hl => ?_)
  refine lv_aload_n hx hb dX11_spreads_2 rfl (lv_at hl 1 rfl) ?_
  refine lv_iconst (v := (-1)) hx hb dX11_spreads_3 (by decide) ?_
  obtain ⟨τ1, eτ1, hf⟩ := e_l hf
  refine g_put X hH (fp_42_28 G) tw_554 rfl rfl dX11_spreads_4 (fun H locs hH => ?_)
  have hH : Hs G τ1 s H locs := by rw [eτ1]; exact hH
  refine lv_iconst (v := 0) hx hb dX11_spreads_7 (by decide) ?_
  refine lv_istore_n (lv' := [(2, .int 0), (1, .int (-1)), (0, .ref (aG G 42))]) hx hb dX11_spreads_8 rfl hl (by decide) rfl (fun ls hl => ?_)
  exact b_Mo_spreads_42_9 (N := N) X _ _ _ _ _ _ _ hH (lv_sub hl [2, 1, 0] rfl) hf
theorem c_Mo_spreads_42 (l : Launch) (G : GT) {N : Nat} {τ υ : Hp} {r : Int32} (hf : f_Mo_spreads N 42 τ = some (r, υ)) : MI l G yX11_spreads cX11_spreads 4 (some .int) 1 25 [.ref (aG G 42)] τ r υ := mk_I (by decide) (Nat.le_of_ble_eq_true rfl) (fun p e s m args below meth c X hH ls hl => b_Mo_spreads_42_0 (N := N) X hH (lv_sub hl [0] rfl) hf)
set_option maxHeartbeats 4000000 in
set_option maxRecDepth 100000 in
theorem b_Mo_spread_42_0 {l : Launch} {G : GT} {N : Nat} {p : Program} {e : Env} {s : State} {m : MethodId} {args : Array Value} {below : List Frame} {meth : Method} {c : Code} (X : Cx G p s m args meth c cX11_spread 3 RX11 (some .int)) {r : Int32} {υ : Hp} {τ : Hp} {v1 : Int32} {H : Heap} {locs : List Loc} {ls : Array Slot} (hH : Hs G τ s H locs) (hl : lv_has ls 3 [(0, .ref (aG G 42)), (1, .int v1)]) (hf : f_Mo_spread N 42 τ v1 = some (r, υ)) : WI l G (rmG 2 48) p e s m args below meth c r υ H locs (F0 m 0 ls []) := by
  have hx := X.hx
  have hb := X.hb
  unfold f_Mo_spread at hf
  refine lv_aload_n hx hb dX11_spread_0 rfl (lv_at hl 0 rfl) ?_
  refine lv_iconst (v := 0) hx hb dX11_spread_1 (by decide) ?_
  obtain ⟨τ1, eτ1, hf⟩ := e_l hf
  refine g_put X hH (fp_42_0 G) tw_526 rfl rfl dX11_spread_2 (fun H locs hH => ?_)
  have hH : Hs G τ1 s H locs := by rw [eτ1]; exact hH
  refine lv_aload_n hx hb dX11_spread_5 rfl (lv_at hl 0 rfl) ?_
  obtain ⟨r2, τ3, hc4, hf⟩ := e_b hf
  refine c_Vv X hH (k := 42) (n := 0) (As := []) (rest := []) (c_Mo_opens_42 l G (N := N) hc4) (by decide) rfl rfl tw_708 tw_706 tw_707 tw_784 tw_13 (by decide +kernel) ⟨by decide, by decide⟩ rfl hl.1 rfl (Nat.le_of_ble_eq_true rfl) ⟨Nat.zero_le _, Nat.zero_le _⟩ dX11_spread_6 (fun H locs hH => ?_)
  refine lv_aload_n hx hb dX11_spread_9 rfl (lv_at hl 0 rfl) ?_
  obtain ⟨r5, τ6, hc7, hf⟩ := e_b hf
  refine c_Vi X hH (k := 42) (n := 0) (As := []) (rest := []) (c_Mo_spreads_42 l G (N := N) hc7) (by decide) rfl rfl tw_718 tw_716 tw_717 tw_786 tw_13 (by decide +kernel) ⟨by decide, by decide⟩ rfl hl.1 rfl (Nat.le_of_ble_eq_true rfl) ⟨Nat.zero_le _, Nat.zero_le _⟩ dX11_spread_10 (fun H locs hH => ?_)
  refine lv_istore_n (lv' := [(2, .int r5), (0, .ref (aG G 42)), (1, .int v1)]) hx hb dX11_spread_13 rfl hl (by decide) rfl (fun ls hl => ?_)
  refine lv_iload_n hx hb dX11_spread_14 rfl (lv_at hl 2 rfl) ?_
  refine lv_if_ne (tgt := 22) hx hb dX11_spread_15 (by decide) (fun c8 => ?_) (fun c8 => ?_)
  · have hf := e_f c8 hf
    refine lv_iload_n hx hb dX11_spread_22 rfl (lv_at hl 2 rfl) ?_
    refine lv_iconst (v := 1) hx hb dX11_spread_23 (by decide) ?_
    refine lv_icmp_ne (tgt := 34) hx hb dX11_spread_24 (by decide) (fun c9 => ?_) (fun c9 => ?_)
    · have hf := e_f c9 hf
      refine lv_iconst (v := (-1)) hx hb dX11_spread_34 (by decide) ?_
      exact r_i X hH hf dX11_spread_35
    · have hf := e_t c9 hf
      refine lv_aload_n hx hb dX11_spread_27 rfl (lv_at hl 1 rfl) ?_
      refine g_get X hH (fa_42_28 G) tw_554 dX11_spread_28 ?_
      refine lv_goto (tgt := 35) hx hb dX11_spread_31 (by decide) ?_
      exact r_i X hH hf dX11_spread_35
  · have hf := e_t c8 hf
    refine lv_iload_n hx hb dX11_spread_18 rfl (lv_at hl 0 rfl) ?_
    refine lv_goto (tgt := 35) hx hb dX11_spread_19 (by decide) ?_
    exact r_i X hH hf dX11_spread_35
theorem c_Mo_spread_42 (l : Launch) (G : GT) {N : Nat} {τ υ : Hp} {v1 : Int32} {r : Int32} (hf : f_Mo_spread N 42 τ v1 = some (r, υ)) : MI l G yX11_spread cX11_spread 3 (some .int) 2 48 [.ref (aG G 42), .int v1] τ r υ := mk_I (by decide) (Nat.le_of_ble_eq_true rfl) (fun p e s m args below meth c X hH ls hl => b_Mo_spread_42_0 (N := N) X hH (lv_sub hl [0, 1] rfl) hf)
set_option maxHeartbeats 4000000 in
set_option maxRecDepth 100000 in
theorem b_Sh_choose_30_7b {l : Launch} {G : GT} {N : Nat} {p : Program} {e : Env} {s : State} {m : MethodId} {args : Array Value} {below : List Frame} {meth : Method} {c : Code} (X : Cx G p s m args meth c cX8_choose 3 RX8 none) {r : Int32} {υ : Hp} {k7 : Hp → Int32 → Int32 → OR} (hk7 : ∀ (τ : Hp) (v1 v2 : Int32) (H : Heap) (locs : List Loc) (ls : Array Slot), Hs G τ s H locs → lv_has ls 3 [(0, .ref (aG G 30)), (1, .int v1), (2, .int v2)] → k7 τ v1 v2 = some (r, υ) → WV l G (rmG 0 0) p e s m args below meth c υ H locs (F0 m 7 ls [])) {τ : Hp} {v1 v2 : Int32} {H : Heap} {locs : List Loc} {ls : Array Slot} (hH : Hs G τ s H locs) (hl : lv_has ls 3 [(0, .ref (aG G 30)), (1, .int v1), (2, .int v2)]) (hf : f_Sh_choose_L7b N 30 k7 τ v1 v2 = some (r, υ)) : WV l G (rmG 0 0) p e s m args below meth c υ H locs (F0 m 7 ls []) := by
  have hx := X.hx
  have hb := X.hb
  unfold f_Sh_choose_L7b at hf
  refine lv_iload_n hx hb dX8_choose_7 rfl (lv_at hl 2 rfl) ?_
  refine lv_aload_n hx hb dX8_choose_8 rfl (lv_at hl 0 rfl) ?_
  refine g_get X hH (fa_30_5 G) tw_152 dX8_choose_9 ?_
  refine lv_icmp_ge (tgt := 55) hx hb dX8_choose_12 (by decide) (fun c1 => ?_) (fun c1 => ?_)
  · have hf := e_t c1 hf
    exact r_v X hH hf dX8_choose_55
  · have hf := e_f c1 hf
    refine lv_iload_n hx hb dX8_choose_15 rfl (lv_at hl 1 rfl) ?_
    refine lv_iload_n hx hb dX8_choose_16 rfl (lv_at hl 2 rfl) ?_
    refine lv_ishr hx hb dX8_choose_17 ?_
    refine lv_iconst (v := 1) hx hb dX8_choose_18 (by decide) ?_
    refine lv_iand hx hb dX8_choose_19 ?_
    refine lv_iconst (v := 1) hx hb dX8_choose_20 (by decide) ?_
    refine lv_icmp_ne (tgt := 49) hx hb dX8_choose_21 (by decide) (fun c2 => ?_) (fun c2 => ?_)
    · have hf := e_f c2 hf
      obtain ⟨x3, ex3, hf⟩ := e_l hf
      refine lv_iinc (v := x3) (lv' := [(2, .int x3), (0, .ref (aG G 30)), (1, .int v1)]) hx hb dX8_choose_49 hl (k := 2) rfl (by rw [ex3]; rfl) (by decide) rfl (fun ls hl => ?_)
      refine lv_goto (tgt := 7) hx hb dX8_choose_52 (by decide) ?_
      exact hk7 _ _ _ _ _ _ hH (lv_sub hl [1, 2, 0] rfl) hf
    · have hf := e_t c2 hf
      refine lv_aload_n hx hb dX8_choose_24 rfl (lv_at hl 0 rfl) ?_
      refine g_get X hH (fa_30_6 G) tw_153 dX8_choose_25 ?_
      refine lv_aload_n hx hb dX8_choose_28 rfl (lv_at hl 0 rfl) ?_
      refine g_get X hH (fa_30_7 G) tw_154 dX8_choose_29 ?_
      refine lv_aload_n hx hb dX8_choose_32 rfl (lv_at hl 0 rfl) ?_
      refine g_get X hH (fa_30_2 G) tw_149 dX8_choose_33 ?_
      refine lv_iload_n hx hb dX8_choose_36 rfl (lv_at hl 2 rfl) ?_
      obtain ⟨g4, hf⟩ := e_g hf
      refine a_ld X hH (aa_35 G) g4 dX8_choose_37 ?_
      obtain ⟨g5, hf⟩ := e_g hf
      obtain ⟨τ6, eτ6, hf⟩ := e_l hf
      refine a_st X hH (aa_38 G) g5 dX8_choose_38 (fun H locs hH => ?_)
      have hH : Hs G τ6 s H locs := by rw [eτ6]; exact hH
      refine lv_aload_n hx hb dX8_choose_39 rfl (lv_at hl 0 rfl) ?_
      refine lv_dup hx hb dX8_choose_40 rfl ?_
      refine g_get X hH (fa_30_7 G) tw_154 dX8_choose_41 ?_
      refine lv_iconst (v := 1) hx hb dX8_choose_44 (by decide) ?_
      refine lv_iadd hx hb dX8_choose_45 ?_
      obtain ⟨τ7, eτ7, hf⟩ := e_l hf
      refine g_put X hH (fp_30_7 G) tw_154 rfl rfl dX8_choose_46 (fun H locs hH => ?_)
      have hH : Hs G τ7 s H locs := by rw [eτ7]; exact hH
      obtain ⟨x8, ex8, hf⟩ := e_l hf
      refine lv_iinc (v := x8) (lv' := [(2, .int x8), (0, .ref (aG G 30)), (1, .int v1)]) hx hb dX8_choose_49 hl (k := 2) rfl (by rw [ex8]; rfl) (by decide) rfl (fun ls hl => ?_)
      refine lv_goto (tgt := 7) hx hb dX8_choose_52 (by decide) ?_
      exact hk7 _ _ _ _ _ _ hH (lv_sub hl [1, 2, 0] rfl) hf
theorem b_Sh_choose_30_7 {l : Launch} {G : GT} {N : Nat} {p : Program} {e : Env} {s : State} {m : MethodId} {args : Array Value} {below : List Frame} {meth : Method} {c : Code} (X : Cx G p s m args meth c cX8_choose 3 RX8 none) {r : Int32} {υ : Hp} : ∀ (n : Nat) (τ : Hp) (v1 v2 : Int32) (H : Heap) (locs : List Loc) (ls : Array Slot), Hs G τ s H locs → lv_has ls 3 [(0, .ref (aG G 30)), (1, .int v1), (2, .int v2)] → f_Sh_choose_L7 N 30 n τ v1 v2 = some (r, υ) → WV l G (rmG 0 0) p e s m args below meth c υ H locs (F0 m 7 ls []) := by
  intro n
  induction n with
  | zero => intro τ v1 v2 H locs ls hH hl hf; exact nomatch (show (none : OR) = some (r, υ) from hf)
  | succ n ih => intro τ v1 v2 H locs ls hH hl hf; exact b_Sh_choose_30_7b (N := N) X ih hH hl hf
set_option maxHeartbeats 4000000 in
set_option maxRecDepth 100000 in
theorem b_Sh_choose_30_0 {l : Launch} {G : GT} {N : Nat} {p : Program} {e : Env} {s : State} {m : MethodId} {args : Array Value} {below : List Frame} {meth : Method} {c : Code} (X : Cx G p s m args meth c cX8_choose 3 RX8 none) {r : Int32} {υ : Hp} {τ : Hp} {v1 : Int32} {H : Heap} {locs : List Loc} {ls : Array Slot} (hH : Hs G τ s H locs) (hl : lv_has ls 3 [(0, .ref (aG G 30)), (1, .int v1)]) (hf : f_Sh_choose N 30 τ v1 = some (r, υ)) : WV l G (rmG 0 0) p e s m args below meth c υ H locs (F0 m 0 ls []) := by
  have hx := X.hx
  have hb := X.hb
  unfold f_Sh_choose at hf
  refine lv_aload_n hx hb dX8_choose_0 rfl (lv_at hl 0 rfl) ?_
  refine lv_iconst (v := 0) hx hb dX8_choose_1 (by decide) ?_
  obtain ⟨τ1, eτ1, hf⟩ := e_l hf
  refine g_put X hH (fp_30_7 G) tw_154 rfl rfl dX8_choose_2 (fun H locs hH => ?_)
  have hH : Hs G τ1 s H locs := by rw [eτ1]; exact hH
  refine lv_iconst (v := 0) hx hb dX8_choose_5 (by decide) ?_
  refine lv_istore_n (lv' := [(2, .int 0), (0, .ref (aG G 30)), (1, .int v1)]) hx hb dX8_choose_6 rfl hl (by decide) rfl (fun ls hl => ?_)
  exact b_Sh_choose_30_7 (N := N) X _ _ _ _ _ _ _ hH (lv_sub hl [1, 2, 0] rfl) hf
theorem c_Sh_choose_30 (l : Launch) (G : GT) {N : Nat} {τ υ : Hp} {v1 : Int32} {r : Int32} (hf : f_Sh_choose N 30 τ v1 = some (r, υ)) : MV l G yX8_choose cX8_choose 3 0 0 [.ref (aG G 30), .int v1] τ υ := mk_V (by decide) (Nat.le_of_ble_eq_true rfl) (fun p e s m args below meth c X hH ls hl => b_Sh_choose_30_0 (N := N) X hH (lv_sub hl [0, 1] rfl) hf)
set_option maxHeartbeats 4000000 in
set_option maxRecDepth 100000 in
theorem b_Sh_tollOf_30_4b {l : Launch} {G : GT} {N : Nat} {p : Program} {e : Env} {s : State} {m : MethodId} {args : Array Value} {below : List Frame} {meth : Method} {c : Code} (X : Cx G p s m args meth c cX8_tollOf 4 RX8 (some .int)) {r : Int32} {υ : Hp} {k4 : Hp → Int32 → Int32 → Int32 → OR} (hk4 : ∀ (τ : Hp) (v1 v2 v3 : Int32) (H : Heap) (locs : List Loc) (ls : Array Slot), Hs G τ s H locs → lv_has ls 4 [(0, .ref (aG G 30)), (1, .int v1), (2, .int v2), (3, .int v3)] → k4 τ v1 v2 v3 = some (r, υ) → WI l G (rmG 0 0) p e s m args below meth c r υ H locs (F0 m 4 ls [])) {τ : Hp} {v1 v2 v3 : Int32} {H : Heap} {locs : List Loc} {ls : Array Slot} (hH : Hs G τ s H locs) (hl : lv_has ls 4 [(0, .ref (aG G 30)), (1, .int v1), (2, .int v2), (3, .int v3)]) (hf : f_Sh_tollOf_L4b N 30 k4 τ v1 v2 v3 = some (r, υ)) : WI l G (rmG 0 0) p e s m args below meth c r υ H locs (F0 m 4 ls []) := by
  have hx := X.hx
  have hb := X.hb
  unfold f_Sh_tollOf_L4b at hf
  refine lv_iload_n hx hb dX8_tollOf_4 rfl (lv_at hl 3 rfl) ?_
  refine lv_aload_n hx hb dX8_tollOf_5 rfl (lv_at hl 0 rfl) ?_
  refine g_get X hH (fa_30_5 G) tw_152 dX8_tollOf_6 ?_
  refine lv_icmp_ge (tgt := 36) hx hb dX8_tollOf_9 (by decide) (fun c1 => ?_) (fun c1 => ?_)
  · have hf := e_t c1 hf
    refine lv_iload_n hx hb dX8_tollOf_36 rfl (lv_at hl 2 rfl) ?_
    exact r_i X hH hf dX8_tollOf_37
  · have hf := e_f c1 hf
    refine lv_iload_n hx hb dX8_tollOf_12 rfl (lv_at hl 1 rfl) ?_
    refine lv_iload_n hx hb dX8_tollOf_13 rfl (lv_at hl 3 rfl) ?_
    refine lv_ishr hx hb dX8_tollOf_14 ?_
    refine lv_iconst (v := 1) hx hb dX8_tollOf_15 (by decide) ?_
    refine lv_iand hx hb dX8_tollOf_16 ?_
    refine lv_iconst (v := 1) hx hb dX8_tollOf_17 (by decide) ?_
    refine lv_icmp_ne (tgt := 30) hx hb dX8_tollOf_18 (by decide) (fun c2 => ?_) (fun c2 => ?_)
    · have hf := e_f c2 hf
      obtain ⟨x3, ex3, hf⟩ := e_l hf
      refine lv_iinc (v := x3) (lv' := [(3, .int x3), (0, .ref (aG G 30)), (1, .int v1), (2, .int v2)]) hx hb dX8_tollOf_30 hl (k := 3) rfl (by rw [ex3]; rfl) (by decide) rfl (fun ls hl => ?_)
      refine lv_goto (tgt := 4) hx hb dX8_tollOf_33 (by decide) ?_
      exact hk4 _ _ _ _ _ _ _ hH (lv_sub hl [1, 2, 3, 0] rfl) hf
    · have hf := e_t c2 hf
      refine lv_iload_n hx hb dX8_tollOf_21 rfl (lv_at hl 2 rfl) ?_
      refine lv_aload_n hx hb dX8_tollOf_22 rfl (lv_at hl 0 rfl) ?_
      refine g_get X hH (fa_30_4 G) tw_151 dX8_tollOf_23 ?_
      refine lv_iload_n hx hb dX8_tollOf_26 rfl (lv_at hl 3 rfl) ?_
      obtain ⟨g4, hf⟩ := e_g hf
      refine a_ld X hH (aa_37 G) g4 dX8_tollOf_27 ?_
      refine lv_iadd hx hb dX8_tollOf_28 ?_
      obtain ⟨x5, ex5, hf⟩ := e_l hf
      refine g_nm ex5 ?_
      refine lv_istore_n (lv' := [(2, .int x5), (0, .ref (aG G 30)), (1, .int v1), (3, .int v3)]) hx hb dX8_tollOf_29 rfl hl (by decide) rfl (fun ls hl => ?_)
      obtain ⟨x6, ex6, hf⟩ := e_l hf
      refine lv_iinc (v := x6) (lv' := [(3, .int x6), (2, .int x5), (0, .ref (aG G 30)), (1, .int v1)]) hx hb dX8_tollOf_30 hl (k := 3) rfl (by rw [ex6]; rfl) (by decide) rfl (fun ls hl => ?_)
      refine lv_goto (tgt := 4) hx hb dX8_tollOf_33 (by decide) ?_
      exact hk4 _ _ _ _ _ _ _ hH (lv_sub hl [2, 3, 1, 0] rfl) hf
theorem b_Sh_tollOf_30_4 {l : Launch} {G : GT} {N : Nat} {p : Program} {e : Env} {s : State} {m : MethodId} {args : Array Value} {below : List Frame} {meth : Method} {c : Code} (X : Cx G p s m args meth c cX8_tollOf 4 RX8 (some .int)) {r : Int32} {υ : Hp} : ∀ (n : Nat) (τ : Hp) (v1 v2 v3 : Int32) (H : Heap) (locs : List Loc) (ls : Array Slot), Hs G τ s H locs → lv_has ls 4 [(0, .ref (aG G 30)), (1, .int v1), (2, .int v2), (3, .int v3)] → f_Sh_tollOf_L4 N 30 n τ v1 v2 v3 = some (r, υ) → WI l G (rmG 0 0) p e s m args below meth c r υ H locs (F0 m 4 ls []) := by
  intro n
  induction n with
  | zero => intro τ v1 v2 v3 H locs ls hH hl hf; exact nomatch (show (none : OR) = some (r, υ) from hf)
  | succ n ih => intro τ v1 v2 v3 H locs ls hH hl hf; exact b_Sh_tollOf_30_4b (N := N) X ih hH hl hf
set_option maxHeartbeats 4000000 in
set_option maxRecDepth 100000 in
theorem b_Sh_tollOf_30_0 {l : Launch} {G : GT} {N : Nat} {p : Program} {e : Env} {s : State} {m : MethodId} {args : Array Value} {below : List Frame} {meth : Method} {c : Code} (X : Cx G p s m args meth c cX8_tollOf 4 RX8 (some .int)) {r : Int32} {υ : Hp} {τ : Hp} {v1 : Int32} {H : Heap} {locs : List Loc} {ls : Array Slot} (hH : Hs G τ s H locs) (hl : lv_has ls 4 [(0, .ref (aG G 30)), (1, .int v1)]) (hf : f_Sh_tollOf N 30 τ v1 = some (r, υ)) : WI l G (rmG 0 0) p e s m args below meth c r υ H locs (F0 m 0 ls []) := by
  have hx := X.hx
  have hb := X.hb
  unfold f_Sh_tollOf at hf
  refine lv_iconst (v := 0) hx hb dX8_tollOf_0 (by decide) ?_
  refine lv_istore_n (lv' := [(2, .int 0), (0, .ref (aG G 30)), (1, .int v1)]) hx hb dX8_tollOf_1 rfl hl (by decide) rfl (fun ls hl => ?_)
  refine lv_iconst (v := 0) hx hb dX8_tollOf_2 (by decide) ?_
  refine lv_istore_n (lv' := [(3, .int 0), (2, .int 0), (0, .ref (aG G 30)), (1, .int v1)]) hx hb dX8_tollOf_3 rfl hl (by decide) rfl (fun ls hl => ?_)
  exact b_Sh_tollOf_30_4 (N := N) X _ _ _ _ _ _ _ _ hH (lv_sub hl [2, 3, 1, 0] rfl) hf
theorem c_Sh_tollOf_30 (l : Launch) (G : GT) {N : Nat} {τ υ : Hp} {v1 : Int32} {r : Int32} (hf : f_Sh_tollOf N 30 τ v1 = some (r, υ)) : MI l G yX8_tollOf cX8_tollOf 4 (some .int) 0 0 [.ref (aG G 30), .int v1] τ r υ := mk_I (by decide) (Nat.le_of_ble_eq_true rfl) (fun p e s m args below meth c X hH ls hl => b_Sh_tollOf_30_0 (N := N) X hH (lv_sub hl [0, 1] rfl) hf)
set_option maxHeartbeats 4000000 in
set_option maxRecDepth 100000 in
theorem b_Sp_chain_31_12b {l : Launch} {G : GT} {N : Nat} {p : Program} {e : Env} {s : State} {m : MethodId} {args : Array Value} {below : List Frame} {meth : Method} {c : Code} (X : Cx G p s m args meth c cX9_chain 3 RX9 none) {r : Int32} {υ : Hp} {k2 : Hp → Int32 → OR} (hk2 : ∀ (τ : Hp) (v1 : Int32) (H : Heap) (locs : List Loc) (ls : Array Slot), Hs G τ s H locs → lv_has ls 3 [(0, .ref (aG G 31)), (1, .int v1)] → k2 τ v1 = some (r, υ) → WV l G (rmG 0 0) p e s m args below meth c υ H locs (F0 m 2 ls [])) {k12 : Hp → Int32 → Int32 → OR} (hk12 : ∀ (τ : Hp) (v1 v2 : Int32) (H : Heap) (locs : List Loc) (ls : Array Slot), Hs G τ s H locs → lv_has ls 3 [(0, .ref (aG G 31)), (1, .int v1), (2, .int v2)] → k12 τ v1 v2 = some (r, υ) → WV l G (rmG 0 0) p e s m args below meth c υ H locs (F0 m 12 ls [])) {τ : Hp} {v1 v2 : Int32} {H : Heap} {locs : List Loc} {ls : Array Slot} (hH : Hs G τ s H locs) (hl : lv_has ls 3 [(0, .ref (aG G 31)), (1, .int v1), (2, .int v2)]) (hf : f_Sp_chain_L12b N 31 k2 k12 τ v1 v2 = some (r, υ)) : WV l G (rmG 0 0) p e s m args below meth c υ H locs (F0 m 12 ls []) := by
  have hx := X.hx
  have hb := X.hb
  unfold f_Sp_chain_L12b at hf
  refine lv_iload_n hx hb dX9_chain_12 rfl (lv_at hl 2 rfl) ?_
  refine lv_aload_n hx hb dX9_chain_13 rfl (lv_at hl 0 rfl) ?_
  refine g_get X hH (fa_31_2 G) tw_137 dX9_chain_14 ?_
  refine lv_icmp_ge (tgt := 55) hx hb dX9_chain_17 (by decide) (fun c1 => ?_) (fun c1 => ?_)
  · have hf := e_t c1 hf
    obtain ⟨x2, ex2, hf⟩ := e_l hf
    refine lv_iinc (v := x2) (lv' := [(1, .int x2), (0, .ref (aG G 31)), (2, .int v2)]) hx hb dX9_chain_55 hl (k := 1) rfl (by rw [ex2]; rfl) (by decide) rfl (fun ls hl => ?_)
    refine lv_goto (tgt := 2) hx hb dX9_chain_58 (by decide) ?_
    exact hk2 _ _ _ _ _ hH (lv_sub hl [1, 0] rfl) hf
  · have hf := e_f c1 hf
    refine lv_aload_n hx hb dX9_chain_20 rfl (lv_at hl 0 rfl) ?_
    refine g_get X hH (fa_31_1 G) tw_136 dX9_chain_21 ?_
    refine lv_iload_n hx hb dX9_chain_24 rfl (lv_at hl 2 rfl) ?_
    obtain ⟨g3, hf⟩ := e_g hf
    refine a_ld X hH (aa_33 G) g3 dX9_chain_25 ?_
    refine lv_iload_n hx hb dX9_chain_26 rfl (lv_at hl 1 rfl) ?_
    refine lv_ishr hx hb dX9_chain_27 ?_
    refine lv_iconst (v := 1) hx hb dX9_chain_28 (by decide) ?_
    refine lv_iand hx hb dX9_chain_29 ?_
    refine lv_iconst (v := 1) hx hb dX9_chain_30 (by decide) ?_
    refine lv_icmp_ne (tgt := 49) hx hb dX9_chain_31 (by decide) (fun c4 => ?_) (fun c4 => ?_)
    · have hf := e_f c4 hf
      obtain ⟨x5, ex5, hf⟩ := e_l hf
      refine lv_iinc (v := x5) (lv' := [(2, .int x5), (0, .ref (aG G 31)), (1, .int v1)]) hx hb dX9_chain_49 hl (k := 2) rfl (by rw [ex5]; rfl) (by decide) rfl (fun ls hl => ?_)
      refine lv_goto (tgt := 12) hx hb dX9_chain_52 (by decide) ?_
      exact hk12 _ _ _ _ _ _ hH (lv_sub hl [1, 2, 0] rfl) hf
    · have hf := e_t c4 hf
      refine lv_aload_n hx hb dX9_chain_34 rfl (lv_at hl 0 rfl) ?_
      refine g_get X hH (fa_31_1 G) tw_136 dX9_chain_35 ?_
      refine lv_iload_n hx hb dX9_chain_38 rfl (lv_at hl 2 rfl) ?_
      refine lv_dup2_11 hx hb dX9_chain_39 rfl rfl ?_
      obtain ⟨g6, hf⟩ := e_g hf
      refine a_ld X hH (aa_33 G) g6 dX9_chain_40 ?_
      refine lv_aload_n hx hb dX9_chain_41 rfl (lv_at hl 0 rfl) ?_
      refine g_get X hH (fa_31_1 G) tw_136 dX9_chain_42 ?_
      refine lv_iload_n hx hb dX9_chain_45 rfl (lv_at hl 1 rfl) ?_
      obtain ⟨g7, hf⟩ := e_g hf
      refine a_ld X hH (aa_33 G) g7 dX9_chain_46 ?_
      refine lv_ior hx hb dX9_chain_47 ?_
      obtain ⟨g8, hf⟩ := e_g hf
      obtain ⟨τ9, eτ9, hf⟩ := e_l hf
      refine a_st X hH (aa_33 G) g8 dX9_chain_48 (fun H locs hH => ?_)
      have hH : Hs G τ9 s H locs := by rw [eτ9]; exact hH
      obtain ⟨x10, ex10, hf⟩ := e_l hf
      refine lv_iinc (v := x10) (lv' := [(2, .int x10), (0, .ref (aG G 31)), (1, .int v1)]) hx hb dX9_chain_49 hl (k := 2) rfl (by rw [ex10]; rfl) (by decide) rfl (fun ls hl => ?_)
      refine lv_goto (tgt := 12) hx hb dX9_chain_52 (by decide) ?_
      exact hk12 _ _ _ _ _ _ hH (lv_sub hl [1, 2, 0] rfl) hf
theorem b_Sp_chain_31_12 {l : Launch} {G : GT} {N : Nat} {p : Program} {e : Env} {s : State} {m : MethodId} {args : Array Value} {below : List Frame} {meth : Method} {c : Code} (X : Cx G p s m args meth c cX9_chain 3 RX9 none) {r : Int32} {υ : Hp} {k2 : Hp → Int32 → OR} (hk2 : ∀ (τ : Hp) (v1 : Int32) (H : Heap) (locs : List Loc) (ls : Array Slot), Hs G τ s H locs → lv_has ls 3 [(0, .ref (aG G 31)), (1, .int v1)] → k2 τ v1 = some (r, υ) → WV l G (rmG 0 0) p e s m args below meth c υ H locs (F0 m 2 ls [])) : ∀ (n : Nat) (τ : Hp) (v1 v2 : Int32) (H : Heap) (locs : List Loc) (ls : Array Slot), Hs G τ s H locs → lv_has ls 3 [(0, .ref (aG G 31)), (1, .int v1), (2, .int v2)] → f_Sp_chain_L12 N 31 k2 n τ v1 v2 = some (r, υ) → WV l G (rmG 0 0) p e s m args below meth c υ H locs (F0 m 12 ls []) := by
  intro n
  induction n with
  | zero => intro τ v1 v2 H locs ls hH hl hf; exact nomatch (show (none : OR) = some (r, υ) from hf)
  | succ n ih => intro τ v1 v2 H locs ls hH hl hf; exact b_Sp_chain_31_12b (N := N) X hk2 ih hH hl hf
set_option maxHeartbeats 4000000 in
set_option maxRecDepth 100000 in
theorem b_Sp_chain_31_2b {l : Launch} {G : GT} {N : Nat} {p : Program} {e : Env} {s : State} {m : MethodId} {args : Array Value} {below : List Frame} {meth : Method} {c : Code} (X : Cx G p s m args meth c cX9_chain 3 RX9 none) {r : Int32} {υ : Hp} {k2 : Hp → Int32 → OR} (hk2 : ∀ (τ : Hp) (v1 : Int32) (H : Heap) (locs : List Loc) (ls : Array Slot), Hs G τ s H locs → lv_has ls 3 [(0, .ref (aG G 31)), (1, .int v1)] → k2 τ v1 = some (r, υ) → WV l G (rmG 0 0) p e s m args below meth c υ H locs (F0 m 2 ls [])) {τ : Hp} {v1 : Int32} {H : Heap} {locs : List Loc} {ls : Array Slot} (hH : Hs G τ s H locs) (hl : lv_has ls 3 [(0, .ref (aG G 31)), (1, .int v1)]) (hf : f_Sp_chain_L2b N 31 k2 τ v1 = some (r, υ)) : WV l G (rmG 0 0) p e s m args below meth c υ H locs (F0 m 2 ls []) := by
  have hx := X.hx
  have hb := X.hb
  unfold f_Sp_chain_L2b at hf
  refine lv_iload_n hx hb dX9_chain_2 rfl (lv_at hl 1 rfl) ?_
  refine lv_aload_n hx hb dX9_chain_3 rfl (lv_at hl 0 rfl) ?_
  refine g_get X hH (fa_31_2 G) tw_137 dX9_chain_4 ?_
  refine lv_icmp_ge (tgt := 61) hx hb dX9_chain_7 (by decide) (fun c1 => ?_) (fun c1 => ?_)
  · have hf := e_t c1 hf
    exact r_v X hH hf dX9_chain_61
  · have hf := e_f c1 hf
    refine lv_iconst (v := 0) hx hb dX9_chain_10 (by decide) ?_
    refine lv_istore_n (lv' := [(2, .int 0), (0, .ref (aG G 31)), (1, .int v1)]) hx hb dX9_chain_11 rfl hl (by decide) rfl (fun ls hl => ?_)
    exact b_Sp_chain_31_12 (N := N) X hk2 _ _ _ _ _ _ _ hH (lv_sub hl [1, 2, 0] rfl) hf
theorem b_Sp_chain_31_2 {l : Launch} {G : GT} {N : Nat} {p : Program} {e : Env} {s : State} {m : MethodId} {args : Array Value} {below : List Frame} {meth : Method} {c : Code} (X : Cx G p s m args meth c cX9_chain 3 RX9 none) {r : Int32} {υ : Hp} : ∀ (n : Nat) (τ : Hp) (v1 : Int32) (H : Heap) (locs : List Loc) (ls : Array Slot), Hs G τ s H locs → lv_has ls 3 [(0, .ref (aG G 31)), (1, .int v1)] → f_Sp_chain_L2 N 31 n τ v1 = some (r, υ) → WV l G (rmG 0 0) p e s m args below meth c υ H locs (F0 m 2 ls []) := by
  intro n
  induction n with
  | zero => intro τ v1 H locs ls hH hl hf; exact nomatch (show (none : OR) = some (r, υ) from hf)
  | succ n ih => intro τ v1 H locs ls hH hl hf; exact b_Sp_chain_31_2b (N := N) X ih hH hl hf
set_option maxHeartbeats 4000000 in
set_option maxRecDepth 100000 in
theorem b_Sp_chain_31_0 {l : Launch} {G : GT} {N : Nat} {p : Program} {e : Env} {s : State} {m : MethodId} {args : Array Value} {below : List Frame} {meth : Method} {c : Code} (X : Cx G p s m args meth c cX9_chain 3 RX9 none) {r : Int32} {υ : Hp} {τ : Hp} {H : Heap} {locs : List Loc} {ls : Array Slot} (hH : Hs G τ s H locs) (hl : lv_has ls 3 [(0, .ref (aG G 31))]) (hf : f_Sp_chain N 31 τ = some (r, υ)) : WV l G (rmG 0 0) p e s m args below meth c υ H locs (F0 m 0 ls []) := by
  have hx := X.hx
  have hb := X.hb
  unfold f_Sp_chain at hf
  refine lv_iconst (v := 0) hx hb dX9_chain_0 (by decide) ?_
  refine lv_istore_n (lv' := [(1, .int 0), (0, .ref (aG G 31))]) hx hb dX9_chain_1 rfl hl (by decide) rfl (fun ls hl => ?_)
  exact b_Sp_chain_31_2 (N := N) X _ _ _ _ _ _ hH (lv_sub hl [1, 0] rfl) hf
theorem c_Sp_chain_31 (l : Launch) (G : GT) {N : Nat} {τ υ : Hp} {r : Int32} (hf : f_Sp_chain N 31 τ = some (r, υ)) : MV l G yX9_chain cX9_chain 3 0 0 [.ref (aG G 31)] τ υ := mk_V (by decide) (Nat.le_of_ble_eq_true rfl) (fun p e s m args below meth c X hH ls hl => b_Sp_chain_31_0 (N := N) X hH (lv_sub hl [0] rfl) hf)
