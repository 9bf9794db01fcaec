-- Sp_othersFrom_31 Sp_widest_31 Sp_addRule_31 Sh_widestWithout_30 Sp_begin_31_11 Sh_gatherCans_30_10_3 Sh_seekSet_30_10_3 WP_shut_0 Mo_shut_42
set_option maxHeartbeats 4000000 in
set_option maxRecDepth 100000 in
theorem b_Sp_othersFrom_31_4b {l : Launch} {G : GT} {N : Nat} {p : Program} {e : Env} {s : State} {m : MethodId} {args : Array Value} {below : List Frame} {meth : Method} {c : Code} (X : Cx G p s m args meth c cX9_othersFrom 4 RX9 (some .int)) {r : Int32} {υ : Hp} {k4 : Hp → Int32 → Int32 → Int32 → OR} (hk4 : ∀ (τ : Hp) (v1 v2 v3 : Int32) (H : Heap) (locs : List Loc) (ls : Array Slot), Hs G τ s H locs → lv_has ls 4 [(0, .ref (aG G 31)), (1, .int v1), (2, .int v2), (3, .int v3)] → k4 τ v1 v2 v3 = some (r, υ) → WI l G (rmG 0 0) p e s m args below meth c r υ H locs (F0 m 4 ls [])) {τ : Hp} {v1 v2 v3 : Int32} {H : Heap} {locs : List Loc} {ls : Array Slot} (hH : Hs G τ s H locs) (hl : lv_has ls 4 [(0, .ref (aG G 31)), (1, .int v1), (2, .int v2), (3, .int v3)]) (hf : f_Sp_othersFrom_L4b N 31 k4 τ v1 v2 v3 = some (r, υ)) : WI l G (rmG 0 0) p e s m args below meth c r υ H locs (F0 m 4 ls []) := by
  have hx := X.hx
  have hb := X.hb
  unfold f_Sp_othersFrom_L4b at hf
  refine lv_iload_n hx hb dX9_othersFrom_4 rfl (lv_at hl 3 rfl) ?_
  refine lv_aload_n hx hb dX9_othersFrom_5 rfl (lv_at hl 0 rfl) ?_
  refine g_get X hH (fa_31_2 G) tw_137 dX9_othersFrom_6 ?_
  refine lv_icmp_ge (tgt := 41) hx hb dX9_othersFrom_9 (by decide) (fun c1 => ?_) (fun c1 => ?_)
  · have hf := e_t c1 hf
    refine lv_iload_n hx hb dX9_othersFrom_41 rfl (lv_at hl 2 rfl) ?_
    refine lv_iconst (v := 1) hx hb dX9_othersFrom_42 (by decide) ?_
    refine lv_isub hx hb dX9_othersFrom_43 ?_
    exact r_i X hH hf dX9_othersFrom_44
  · have hf := e_f c1 hf
    refine lv_aload_n hx hb dX9_othersFrom_12 rfl (lv_at hl 0 rfl) ?_
    refine g_get X hH (fa_31_1 G) tw_136 dX9_othersFrom_13 ?_
    refine lv_iload_n hx hb dX9_othersFrom_16 rfl (lv_at hl 1 rfl) ?_
    obtain ⟨g2, hf⟩ := e_g hf
    refine a_ld X hH (aa_33 G) g2 dX9_othersFrom_17 ?_
    refine lv_iload_n hx hb dX9_othersFrom_18 rfl (lv_at hl 3 rfl) ?_
    refine lv_ishr hx hb dX9_othersFrom_19 ?_
    refine lv_iconst (v := 1) hx hb dX9_othersFrom_20 (by decide) ?_
    refine lv_iand hx hb dX9_othersFrom_21 ?_
    refine lv_iconst (v := 1) hx hb dX9_othersFrom_22 (by decide) ?_
    refine lv_icmp_ne (tgt := 35) hx hb dX9_othersFrom_23 (by decide) (fun c3 => ?_) (fun c3 => ?_)
    · have hf := e_f c3 hf
      obtain ⟨x4, ex4, hf⟩ := e_l hf
      refine lv_iinc (v := x4) (lv' := [(3, .int x4), (0, .ref (aG G 31)), (1, .int v1), (2, .int v2)]) hx hb dX9_othersFrom_35 hl (k := 3) rfl (by rw [ex4]; rfl) (by decide) rfl (fun ls hl => ?_)
      refine lv_goto (tgt := 4) hx hb dX9_othersFrom_38 (by decide) ?_
      exact hk4 _ _ _ _ _ _ _ hH (lv_sub hl [1, 2, 3, 0] rfl) hf
    · have hf := e_t c3 hf
      refine lv_iload_n hx hb dX9_othersFrom_26 rfl (lv_at hl 2 rfl) ?_
      refine lv_aload_n hx hb dX9_othersFrom_27 rfl (lv_at hl 0 rfl) ?_
      refine g_get X hH (fa_31_0 G) tw_135 dX9_othersFrom_28 ?_
      refine lv_iload_n hx hb dX9_othersFrom_31 rfl (lv_at hl 3 rfl) ?_
      obtain ⟨g5, hf⟩ := e_g hf
      refine a_ld X hH (aa_32 G) g5 dX9_othersFrom_32 ?_
      refine lv_iadd hx hb dX9_othersFrom_33 ?_
      obtain ⟨x6, ex6, hf⟩ := e_l hf
      refine g_nm ex6 ?_
      refine lv_istore_n (lv' := [(2, .int x6), (0, .ref (aG G 31)), (1, .int v1), (3, .int v3)]) hx hb dX9_othersFrom_34 rfl hl (by decide) rfl (fun ls hl => ?_)
      obtain ⟨x7, ex7, hf⟩ := e_l hf
      refine lv_iinc (v := x7) (lv' := [(3, .int x7), (2, .int x6), (0, .ref (aG G 31)), (1, .int v1)]) hx hb dX9_othersFrom_35 hl (k := 3) rfl (by rw [ex7]; rfl) (by decide) rfl (fun ls hl => ?_)
      refine lv_goto (tgt := 4) hx hb dX9_othersFrom_38 (by decide) ?_
      exact hk4 _ _ _ _ _ _ _ hH (lv_sub hl [2, 3, 1, 0] rfl) hf
theorem b_Sp_othersFrom_31_4 {l : Launch} {G : GT} {N : Nat} {p : Program} {e : Env} {s : State} {m : MethodId} {args : Array Value} {below : List Frame} {meth : Method} {c : Code} (X : Cx G p s m args meth c cX9_othersFrom 4 RX9 (some .int)) {r : Int32} {υ : Hp} : ∀ (n : Nat) (τ : Hp) (v1 v2 v3 : Int32) (H : Heap) (locs : List Loc) (ls : Array Slot), Hs G τ s H locs → lv_has ls 4 [(0, .ref (aG G 31)), (1, .int v1), (2, .int v2), (3, .int v3)] → f_Sp_othersFrom_L4 N 31 n τ v1 v2 v3 = some (r, υ) → WI l G (rmG 0 0) p e s m args below meth c r υ H locs (F0 m 4 ls []) := by
  intro n
  induction n with
  | zero => intro τ v1 v2 v3 H locs ls hH hl hf; exact nomatch (show (none : OR) = some (r, υ) from hf)
  | succ n ih => intro τ v1 v2 v3 H locs ls hH hl hf; exact b_Sp_othersFrom_31_4b (N := N) X ih hH hl hf
set_option maxHeartbeats 4000000 in
set_option maxRecDepth 100000 in
theorem b_Sp_othersFrom_31_0 {l : Launch} {G : GT} {N : Nat} {p : Program} {e : Env} {s : State} {m : MethodId} {args : Array Value} {below : List Frame} {meth : Method} {c : Code} (X : Cx G p s m args meth c cX9_othersFrom 4 RX9 (some .int)) {r : Int32} {υ : Hp} {τ : Hp} {v1 : Int32} {H : Heap} {locs : List Loc} {ls : Array Slot} (hH : Hs G τ s H locs) (hl : lv_has ls 4 [(0, .ref (aG G 31)), (1, .int v1)]) (hf : f_Sp_othersFrom N 31 τ v1 = some (r, υ)) : WI l G (rmG 0 0) p e s m args below meth c r υ H locs (F0 m 0 ls []) := by
  have hx := X.hx
  have hb := X.hb
  unfold f_Sp_othersFrom at hf
  refine lv_iconst (v := 0) hx hb dX9_othersFrom_0 (by decide) ?_
  refine lv_istore_n (lv' := [(2, .int 0), (0, .ref (aG G 31)), (1, .int v1)]) hx hb dX9_othersFrom_1 rfl hl (by decide) rfl (fun ls hl => ?_)
  refine lv_iconst (v := 0) hx hb dX9_othersFrom_2 (by decide) ?_
  refine lv_istore_n (lv' := [(3, .int 0), (2, .int 0), (0, .ref (aG G 31)), (1, .int v1)]) hx hb dX9_othersFrom_3 rfl hl (by decide) rfl (fun ls hl => ?_)
  exact b_Sp_othersFrom_31_4 (N := N) X _ _ _ _ _ _ _ _ hH (lv_sub hl [2, 3, 1, 0] rfl) hf
theorem c_Sp_othersFrom_31 (l : Launch) (G : GT) {N : Nat} {τ υ : Hp} {v1 : Int32} {r : Int32} (hf : f_Sp_othersFrom N 31 τ v1 = some (r, υ)) : MI l G yX9_othersFrom cX9_othersFrom 4 (some .int) 0 0 [.ref (aG G 31), .int v1] τ r υ := mk_I (by decide) (Nat.le_of_ble_eq_true rfl) (fun p e s m args below meth c X hH ls hl => b_Sp_othersFrom_31_0 (N := N) X hH (lv_sub hl [0, 1] rfl) hf)
set_option maxHeartbeats 4000000 in
set_option maxRecDepth 100000 in
theorem b_Sp_widest_31_4b {l : Launch} {G : GT} {N : Nat} {p : Program} {e : Env} {s : State} {m : MethodId} {args : Array Value} {below : List Frame} {meth : Method} {c : Code} (X : Cx G p s m args meth c cX9_widest 3 RX9 (some .int)) {r : Int32} {υ : Hp} {k4 : Hp → Int32 → Int32 → OR} (hk4 : ∀ (τ : Hp) (v1 v2 : Int32) (H : Heap) (locs : List Loc) (ls : Array Slot), Hs G τ s H locs → lv_has ls 3 [(0, .ref (aG G 31)), (1, .int v1), (2, .int v2)] → k4 τ v1 v2 = some (r, υ) → WI l G (rmG 1 23) p e s m args below meth c r υ H locs (F0 m 4 ls [])) {τ : Hp} {v1 v2 : Int32} {H : Heap} {locs : List Loc} {ls : Array Slot} (hH : Hs G τ s H locs) (hl : lv_has ls 3 [(0, .ref (aG G 31)), (1, .int v1), (2, .int v2)]) (hf : f_Sp_widest_L4b N 31 k4 τ v1 v2 = some (r, υ)) : WI l G (rmG 1 23) p e s m args below meth c r υ H locs (F0 m 4 ls []) := by
  have hx := X.hx
  have hb := X.hb
  unfold f_Sp_widest_L4b at hf
  refine lv_iload_n hx hb dX9_widest_4 rfl (lv_at hl 2 rfl) ?_
  refine lv_aload_n hx hb dX9_widest_5 rfl (lv_at hl 0 rfl) ?_
  refine g_get X hH (fa_31_2 G) tw_137 dX9_widest_6 ?_
  refine lv_icmp_ge (tgt := 28) hx hb dX9_widest_9 (by decide) (fun c1 => ?_) (fun c1 => ?_)
  · have hf := e_t c1 hf
    refine lv_iload_n hx hb dX9_widest_28 rfl (lv_at hl 1 rfl) ?_
    exact r_i X hH hf dX9_widest_29
  · have hf := e_f c1 hf
    refine lv_iload_n hx hb dX9_widest_12 rfl (lv_at hl 1 rfl) ?_
    refine lv_aload_n hx hb dX9_widest_13 rfl (lv_at hl 0 rfl) ?_
    refine lv_iload_n hx hb dX9_widest_14 rfl (lv_at hl 2 rfl) ?_
    obtain ⟨r2, τ3, hc4, hf⟩ := e_b hf
    refine c_Vi X hH (k := 31) (n := 1) (As := [.int _]) (rest := [.int _]) (c_Sp_othersFrom_31 l G (N := N) hc4) (by decide) rfl rfl tw_441 tw_450 tw_439 tw_440 tw_10 (by decide +kernel) ⟨by decide, by decide⟩ rfl hl.1 rfl (Nat.le_of_ble_eq_true rfl) ⟨Nat.zero_le _, Nat.zero_le _⟩ dX9_widest_15 (fun H locs hH => ?_)
    refine g_max X hl.1.symm tw_451 tw_338 tw_16 tw_339 (by decide) (Nat.le_of_ble_eq_true rfl) ⟨Nat.zero_le _, Nat.zero_le _⟩ dX9_widest_18 ?_
    obtain ⟨x5, ex5, hf⟩ := e_l hf
    refine g_nm ex5 ?_
    refine lv_istore_n (lv' := [(1, .int x5), (0, .ref (aG G 31)), (2, .int v2)]) hx hb dX9_widest_21 rfl hl (by decide) rfl (fun ls hl => ?_)
    obtain ⟨x6, ex6, hf⟩ := e_l hf
    refine lv_iinc (v := x6) (lv' := [(2, .int x6), (1, .int x5), (0, .ref (aG G 31))]) hx hb dX9_widest_22 hl (k := 2) rfl (by rw [ex6]; rfl) (by decide) rfl (fun ls hl => ?_)
    refine lv_goto (tgt := 4) hx hb dX9_widest_25 (by decide) ?_
    exact hk4 _ _ _ _ _ _ hH (lv_sub hl [2, 1, 0] rfl) hf
theorem b_Sp_widest_31_4 {l : Launch} {G : GT} {N : Nat} {p : Program} {e : Env} {s : State} {m : MethodId} {args : Array Value} {below : List Frame} {meth : Method} {c : Code} (X : Cx G p s m args meth c cX9_widest 3 RX9 (some .int)) {r : Int32} {υ : Hp} : ∀ (n : Nat) (τ : Hp) (v1 v2 : Int32) (H : Heap) (locs : List Loc) (ls : Array Slot), Hs G τ s H locs → lv_has ls 3 [(0, .ref (aG G 31)), (1, .int v1), (2, .int v2)] → f_Sp_widest_L4 N 31 n τ v1 v2 = some (r, υ) → WI l G (rmG 1 23) p e s m args below meth c r υ H locs (F0 m 4 ls []) := by
  intro n
  induction n with
  | zero => intro τ v1 v2 H locs ls hH hl hf; exact nomatch (show (none : OR) = some (r, υ) from hf)
  | succ n ih => intro τ v1 v2 H locs ls hH hl hf; exact b_Sp_widest_31_4b (N := N) X ih hH hl hf
set_option maxHeartbeats 4000000 in
set_option maxRecDepth 100000 in
theorem b_Sp_widest_31_0 {l : Launch} {G : GT} {N : Nat} {p : Program} {e : Env} {s : State} {m : MethodId} {args : Array Value} {below : List Frame} {meth : Method} {c : Code} (X : Cx G p s m args meth c cX9_widest 3 RX9 (some .int)) {r : Int32} {υ : Hp} {τ : Hp} {H : Heap} {locs : List Loc} {ls : Array Slot} (hH : Hs G τ s H locs) (hl : lv_has ls 3 [(0, .ref (aG G 31))]) (hf : f_Sp_widest N 31 τ = some (r, υ)) : WI l G (rmG 1 23) p e s m args below meth c r υ H locs (F0 m 0 ls []) := by
  have hx := X.hx
  have hb := X.hb
  unfold f_Sp_widest at hf
  refine lv_iconst (v := (-1)) hx hb dX9_widest_0 (by decide) ?_
  refine lv_istore_n (lv' := [(1, .int (-1)), (0, .ref (aG G 31))]) hx hb dX9_widest_1 rfl hl (by decide) rfl (fun ls hl => ?_)
  refine lv_iconst (v := 0) hx hb dX9_widest_2 (by decide) ?_
  refine lv_istore_n (lv' := [(2, .int 0), (1, .int (-1)), (0, .ref (aG G 31))]) hx hb dX9_widest_3 rfl hl (by decide) rfl (fun ls hl => ?_)
  exact b_Sp_widest_31_4 (N := N) X _ _ _ _ _ _ _ hH (lv_sub hl [2, 1, 0] rfl) hf
theorem c_Sp_widest_31 (l : Launch) (G : GT) {N : Nat} {τ υ : Hp} {r : Int32} (hf : f_Sp_widest N 31 τ = some (r, υ)) : MI l G yX9_widest cX9_widest 3 (some .int) 1 23 [.ref (aG G 31)] τ r υ := mk_I (by decide) (Nat.le_of_ble_eq_true rfl) (fun p e s m args below meth c X hH ls hl => b_Sp_widest_31_0 (N := N) X hH (lv_sub hl [0] rfl) hf)
set_option maxHeartbeats 4000000 in
set_option maxRecDepth 100000 in
theorem b_Sp_addRule_31_0 {l : Launch} {G : GT} {N : Nat} {p : Program} {e : Env} {s : State} {m : MethodId} {args : Array Value} {below : List Frame} {meth : Method} {c : Code} (X : Cx G p s m args meth c cX9_addRule 2 RX9 none) {r : Int32} {υ : Hp} {τ : Hp} {v1 : Int32} {H : Heap} {locs : List Loc} {ls : Array Slot} (hH : Hs G τ s H locs) (hl : lv_has ls 2 [(0, .ref (aG G 31)), (1, .int v1)]) (hf : f_Sp_addRule N 31 τ v1 = some (r, υ)) : WV l G (rmG 1 20) p e s m args below meth c υ H locs (F0 m 0 ls []) := by
  have hx := X.hx
  have hb := X.hb
  unfold f_Sp_addRule at hf
  refine lv_aload_n hx hb dX9_addRule_0 rfl (lv_at hl 0 rfl) ?_
  refine g_get X hH (fa_31_1 G) tw_136 dX9_addRule_1 ?_
  refine lv_iload_n hx hb dX9_addRule_4 rfl (lv_at hl 1 rfl) ?_
  obtain ⟨r1, τ2, hc3, hf⟩ := e_b hf
  refine c_SNi X hH (n := 1) (As := [.int _]) (rest := [.ref (aG G 33)]) (c_WP_firstOf l G (N := N) hc3) tw_360 21 rfl tw_359 tw_1 (by decide +kernel) ⟨by decide, by decide⟩ rfl hl.1 rfl (Nat.le_of_ble_eq_true rfl) ⟨Nat.zero_le _, Nat.zero_le _⟩ dX9_addRule_5 (fun H locs hH => ?_)
  refine lv_dup2_11 hx hb dX9_addRule_8 rfl rfl ?_
  obtain ⟨g4, hf⟩ := e_g hf
  refine a_ld X hH (aa_33 G) g4 dX9_addRule_9 ?_
  refine lv_iconst (v := 1) hx hb dX9_addRule_10 (by decide) ?_
  refine lv_iload_n hx hb dX9_addRule_11 rfl (lv_at hl 1 rfl) ?_
  obtain ⟨r5, τ6, hc7, hf⟩ := e_b hf
  refine c_SNi X hH (n := 1) (As := [.int _]) (rest := [.int _, .int _, .int _, .ref (aG G 33)]) (c_WP_secondOf l G (N := N) hc7) tw_362 22 rfl tw_361 tw_1 (by decide +kernel) ⟨by decide, by decide⟩ rfl hl.1 rfl (Nat.le_of_ble_eq_true rfl) ⟨Nat.zero_le _, Nat.zero_le _⟩ dX9_addRule_12 (fun H locs hH => ?_)
  refine lv_ishl hx hb dX9_addRule_15 ?_
  refine lv_ior hx hb dX9_addRule_16 ?_
  obtain ⟨g8, hf⟩ := e_g hf
  obtain ⟨τ9, eτ9, hf⟩ := e_l hf
  refine a_st X hH (aa_33 G) g8 dX9_addRule_17 (fun H locs hH => ?_)
  have hH : Hs G τ9 s H locs := by rw [eτ9]; exact hH
  exact r_v X hH hf dX9_addRule_18
theorem c_Sp_addRule_31 (l : Launch) (G : GT) {N : Nat} {τ υ : Hp} {v1 : Int32} {r : Int32} (hf : f_Sp_addRule N 31 τ v1 = some (r, υ)) : MV l G yX9_addRule cX9_addRule 2 1 20 [.ref (aG G 31), .int v1] τ υ := mk_V (by decide) (Nat.le_of_ble_eq_true rfl) (fun p e s m args below meth c X hH ls hl => b_Sp_addRule_31_0 (N := N) X hH (lv_sub hl [0, 1] rfl) hf)
set_option maxHeartbeats 4000000 in
set_option maxRecDepth 100000 in
theorem b_Sh_widestWithout_30_20b {l : Launch} {G : GT} {N : Nat} {p : Program} {e : Env} {s : State} {m : MethodId} {args : Array Value} {below : List Frame} {meth : Method} {c : Code} (X : Cx G p s m args meth c cX8_widestWithout 3 RX8 (some .int)) {r : Int32} {υ : Hp} {k20 : Hp → Int32 → Int32 → OR} (hk20 : ∀ (τ : Hp) (v1 v2 : Int32) (H : Heap) (locs : List Loc) (ls : Array Slot), Hs G τ s H locs → lv_has ls 3 [(0, .ref (aG G 30)), (1, .int v1), (2, .int v2)] → k20 τ v1 v2 = some (r, υ) → WI l G (rmG 2 45) p e s m args below meth c r υ H locs (F0 m 20 ls [])) {τ : Hp} {v1 v2 : Int32} {H : Heap} {locs : List Loc} {ls : Array Slot} (hH : Hs G τ s H locs) (hl : lv_has ls 3 [(0, .ref (aG G 30)), (1, .int v1), (2, .int v2)]) (hf : f_Sh_widestWithout_L20b N 30 k20 τ v1 v2 = some (r, υ)) : WI l G (rmG 2 45) p e s m args below meth c r υ H locs (F0 m 20 ls []) := by
  have hx := X.hx
  have hb := X.hb
  unfold f_Sh_widestWithout_L20b at hf
  refine lv_iload_n hx hb dX8_widestWithout_20 rfl (lv_at hl 2 rfl) ?_
  refine lv_aload_n hx hb dX8_widestWithout_21 rfl (lv_at hl 0 rfl) ?_
  refine g_get X hH (fa_30_5 G) tw_152 dX8_widestWithout_22 ?_
  refine lv_icmp_ge (tgt := 55) hx hb dX8_widestWithout_25 (by decide) (fun c1 => ?_) (fun c1 => ?_)
  · have hf := e_t c1 hf
    refine lv_aload_n hx hb dX8_widestWithout_55 rfl (lv_at hl 0 rfl) ?_
    refine g_get X hH (fa_30_0 G) tw_147 dX8_widestWithout_56 ?_
    obtain ⟨r2, τ3, hc4, hf⟩ := e_b hf
    refine c_Vv X hH (k := 31) (n := 0) (As := []) (rest := []) (c_Sp_chain_31 l G (N := N) hc4) (by decide) rfl rfl tw_437 tw_475 tw_435 tw_436 tw_10 (by decide +kernel) ⟨by decide, by decide⟩ rfl hl.1 rfl (Nat.le_of_ble_eq_true rfl) ⟨Nat.zero_le _, Nat.zero_le _⟩ dX8_widestWithout_59 (fun H locs hH => ?_)
    refine lv_aload_n hx hb dX8_widestWithout_62 rfl (lv_at hl 0 rfl) ?_
    refine g_get X hH (fa_30_0 G) tw_147 dX8_widestWithout_63 ?_
    obtain ⟨r5, τ6, hc7, hf⟩ := e_b hf
    refine c_Vi X hH (k := 31) (n := 0) (As := []) (rest := []) (c_Sp_widest_31 l G (N := N) hc7) (by decide) rfl rfl tw_449 tw_476 tw_447 tw_448 tw_10 (by decide +kernel) ⟨by decide, by decide⟩ rfl hl.1 rfl (Nat.le_of_ble_eq_true rfl) ⟨Nat.zero_le _, Nat.zero_le _⟩ dX8_widestWithout_66 (fun H locs hH => ?_)
    exact r_i X hH hf dX8_widestWithout_69
  · have hf := e_f c1 hf
    refine lv_iload_n hx hb dX8_widestWithout_28 rfl (lv_at hl 1 rfl) ?_
    refine lv_iload_n hx hb dX8_widestWithout_29 rfl (lv_at hl 2 rfl) ?_
    refine lv_ishr hx hb dX8_widestWithout_30 ?_
    refine lv_iconst (v := 1) hx hb dX8_widestWithout_31 (by decide) ?_
    refine lv_iand hx hb dX8_widestWithout_32 ?_
    refine lv_if_ne (tgt := 49) hx hb dX8_widestWithout_33 (by decide) (fun c8 => ?_) (fun c8 => ?_)
    · have hf := e_f c8 hf
      obtain ⟨x9, ex9, hf⟩ := e_l hf
      refine lv_iinc (v := x9) (lv' := [(2, .int x9), (0, .ref (aG G 30)), (1, .int v1)]) hx hb dX8_widestWithout_49 hl (k := 2) rfl (by rw [ex9]; rfl) (by decide) rfl (fun ls hl => ?_)
      refine lv_goto (tgt := 20) hx hb dX8_widestWithout_52 (by decide) ?_
      exact hk20 _ _ _ _ _ _ hH (lv_sub hl [1, 2, 0] rfl) hf
    · have hf := e_t c8 hf
      refine lv_aload_n hx hb dX8_widestWithout_36 rfl (lv_at hl 0 rfl) ?_
      refine g_get X hH (fa_30_0 G) tw_147 dX8_widestWithout_37 ?_
      refine lv_aload_n hx hb dX8_widestWithout_40 rfl (lv_at hl 0 rfl) ?_
      refine g_get X hH (fa_30_3 G) tw_150 dX8_widestWithout_41 ?_
      refine lv_iload_n hx hb dX8_widestWithout_44 rfl (lv_at hl 2 rfl) ?_
      obtain ⟨g10, hf⟩ := e_g hf
      refine a_ld X hH (aa_36 G) g10 dX8_widestWithout_45 ?_
      obtain ⟨r11, τ12, hc13, hf⟩ := e_b hf
      refine c_Vv X hH (k := 31) (n := 1) (As := [.int _]) (rest := []) (c_Sp_addRule_31 l G (N := N) hc13) (by decide) rfl rfl tw_433 tw_469 tw_431 tw_432 tw_10 (by decide +kernel) ⟨by decide, by decide⟩ rfl hl.1 rfl (Nat.le_of_ble_eq_true rfl) ⟨Nat.zero_le _, Nat.zero_le _⟩ dX8_widestWithout_46 (fun H locs hH => ?_)
      obtain ⟨x14, ex14, hf⟩ := e_l hf
      refine lv_iinc (v := x14) (lv' := [(2, .int x14), (0, .ref (aG G 30)), (1, .int v1)]) hx hb dX8_widestWithout_49 hl (k := 2) rfl (by rw [ex14]; rfl) (by decide) rfl (fun ls hl => ?_)
      refine lv_goto (tgt := 20) hx hb dX8_widestWithout_52 (by decide) ?_
      exact hk20 _ _ _ _ _ _ hH (lv_sub hl [1, 2, 0] rfl) hf
theorem b_Sh_widestWithout_30_20 {l : Launch} {G : GT} {N : Nat} {p : Program} {e : Env} {s : State} {m : MethodId} {args : Array Value} {below : List Frame} {meth : Method} {c : Code} (X : Cx G p s m args meth c cX8_widestWithout 3 RX8 (some .int)) {r : Int32} {υ : Hp} : ∀ (n : Nat) (τ : Hp) (v1 v2 : Int32) (H : Heap) (locs : List Loc) (ls : Array Slot), Hs G τ s H locs → lv_has ls 3 [(0, .ref (aG G 30)), (1, .int v1), (2, .int v2)] → f_Sh_widestWithout_L20 N 30 n τ v1 v2 = some (r, υ) → WI l G (rmG 2 45) p e s m args below meth c r υ H locs (F0 m 20 ls []) := by
  intro n
  induction n with
  | zero => intro τ v1 v2 H locs ls hH hl hf; exact nomatch (show (none : OR) = some (r, υ) from hf)
  | succ n ih => intro τ v1 v2 H locs ls hH hl hf; exact b_Sh_widestWithout_30_20b (N := N) X ih hH hl hf
set_option maxHeartbeats 4000000 in
set_option maxRecDepth 100000 in
theorem b_Sh_widestWithout_30_0 {l : Launch} {G : GT} {N : Nat} {p : Program} {e : Env} {s : State} {m : MethodId} {args : Array Value} {below : List Frame} {meth : Method} {c : Code} (X : Cx G p s m args meth c cX8_widestWithout 3 RX8 (some .int)) {r : Int32} {υ : Hp} {τ : Hp} {v1 : Int32} {H : Heap} {locs : List Loc} {ls : Array Slot} (hH : Hs G τ s H locs) (hl : lv_has ls 3 [(0, .ref (aG G 30)), (1, .int v1)]) (hf : f_Sh_widestWithout N 30 τ v1 = some (r, υ)) : WI l G (rmG 2 45) p e s m args below meth c r υ H locs (F0 m 0 ls []) := by
  have hx := X.hx
  have hb := X.hb
  unfold f_Sh_widestWithout at hf
  refine lv_aload_n hx hb dX8_widestWithout_0 rfl (lv_at hl 0 rfl) ?_
  refine g_get X hH (fa_30_1 G) tw_148 dX8_widestWithout_1 ?_
  refine lv_iconst (v := 0) hx hb dX8_widestWithout_4 (by decide) ?_
  refine lv_aload_n hx hb dX8_widestWithout_5 rfl (lv_at hl 0 rfl) ?_
  refine g_get X hH (fa_30_0 G) tw_147 dX8_widestWithout_6 ?_
  refine g_getN X hH (fa_31_1 G) 49 rfl dX8_widestWithout_9 ?_
  refine lv_iconst (v := 0) hx hb dX8_widestWithout_12 (by decide) ?_
  refine lv_bipush (v := 8) hx hb dX8_widestWithout_13 (by decide) ?_
  obtain ⟨τ1, eτ1, hf⟩ := e_l hf
  refine a_cp X hH (aa_34 G) (aa_33 G) (N := 8) hl.1.symm tw_471 tw_336 tw_335 tw_15 (by decide) (by decide) (by decide) (by decide) (by decide) (Nat.le_of_ble_eq_true rfl) dX8_widestWithout_15 (fun H locs hH => ?_)
  have hH : Hs G τ1 s H locs := by rw [eτ1]; exact hH
  refine lv_iconst (v := 0) hx hb dX8_widestWithout_18 (by decide) ?_
  refine lv_istore_n (lv' := [(2, .int 0), (0, .ref (aG G 30)), (1, .int v1)]) hx hb dX8_widestWithout_19 rfl hl (by decide) rfl (fun ls hl => ?_)
  exact b_Sh_widestWithout_30_20 (N := N) X _ _ _ _ _ _ _ hH (lv_sub hl [1, 2, 0] rfl) hf
theorem c_Sh_widestWithout_30 (l : Launch) (G : GT) {N : Nat} {τ υ : Hp} {v1 : Int32} {r : Int32} (hf : f_Sh_widestWithout N 30 τ v1 = some (r, υ)) : MI l G yX8_widestWithout cX8_widestWithout 3 (some .int) 2 45 [.ref (aG G 30), .int v1] τ r υ := mk_I (by decide) (Nat.le_of_ble_eq_true rfl) (fun p e s m args below meth c X hH ls hl => b_Sh_widestWithout_30_0 (N := N) X hH (lv_sub hl [0, 1] rfl) hf)
set_option maxHeartbeats 4000000 in
set_option maxRecDepth 100000 in
theorem b_Sp_begin_31_11_40b {l : Launch} {G : GT} {N : Nat} {p : Program} {e : Env} {s : State} {m : MethodId} {args : Array Value} {below : List Frame} {meth : Method} {c : Code} (X : Cx G p s m args meth c cX9_begin 3 RX9 none) {r : Int32} {υ : Hp} {k40 : Hp → Int32 → OR} (hk40 : ∀ (τ : Hp) (v2 : Int32) (H : Heap) (locs : List Loc) (ls : Array Slot), Hs G τ s H locs → lv_has ls 3 [(0, .ref (aG G 31)), (1, .ref (aG G 11)), (2, .int v2)] → k40 τ v2 = some (r, υ) → WV l G (rmG 2 43) p e s m args below meth c υ H locs (F0 m 40 ls [])) {τ : Hp} {v2 : Int32} {H : Heap} {locs : List Loc} {ls : Array Slot} (hH : Hs G τ s H locs) (hl : lv_has ls 3 [(0, .ref (aG G 31)), (1, .ref (aG G 11)), (2, .int v2)]) (hf : f_Sp_begin_L40b N 31 11 k40 τ v2 = some (r, υ)) : WV l G (rmG 2 43) p e s m args below meth c υ H locs (F0 m 40 ls []) := by
  have hx := X.hx
  have hb := X.hb
  unfold f_Sp_begin_L40b at hf
  refine lv_iload_n hx hb dX9_begin_40 rfl (lv_at hl 2 rfl) ?_
  refine lv_bipush (v := 8) hx hb dX9_begin_41 (by decide) ?_
  refine lv_icmp_ge (tgt := 77) hx hb dX9_begin_43 (by decide) (fun c1 => ?_) (fun c1 => ?_)
  · have hf := e_t c1 hf
    exact r_v X hH hf dX9_begin_77
  · have hf := e_f c1 hf
    refine lv_aload_n hx hb dX9_begin_46 rfl (lv_at hl 1 rfl) ?_
    refine g_getN X hH (fa_11_0 G) 23 rfl dX9_begin_47 ?_
    refine lv_iload_n hx hb dX9_begin_50 rfl (lv_at hl 2 rfl) ?_
    obtain ⟨g2, hf⟩ := e_g hf
    refine a_ld X hH (aa_12 G) g2 dX9_begin_51 ?_
    refine lv_iconst (v := (-1)) hx hb dX9_begin_52 (by decide) ?_
    refine lv_icmp_eq (tgt := 71) hx hb dX9_begin_53 (by decide) (fun c3 => ?_) (fun c3 => ?_)
    · have hf := e_t c3 hf
      obtain ⟨x4, ex4, hf⟩ := e_l hf
      refine lv_iinc (v := x4) (lv' := [(2, .int x4), (0, .ref (aG G 31)), (1, .ref (aG G 11))]) hx hb dX9_begin_71 hl (k := 2) rfl (by rw [ex4]; rfl) (by decide) rfl (fun ls hl => ?_)
      refine lv_goto (tgt := 40) hx hb dX9_begin_74 (by decide) ?_
      exact hk40 _ _ _ _ _ hH (lv_sub hl [1, 2, 0] rfl) hf
    · have hf := e_f c3 hf
      refine lv_aload_n hx hb dX9_begin_56 rfl (lv_at hl 0 rfl) ?_
      refine g_get X hH (fa_31_0 G) tw_135 dX9_begin_57 ?_
      refine lv_aload_n hx hb dX9_begin_60 rfl (lv_at hl 1 rfl) ?_
      refine g_getN X hH (fa_11_0 G) 23 rfl dX9_begin_61 ?_
      refine lv_iload_n hx hb dX9_begin_64 rfl (lv_at hl 2 rfl) ?_
      obtain ⟨g5, hf⟩ := e_g hf
      refine a_ld X hH (aa_12 G) g5 dX9_begin_65 ?_
      refine lv_dup2_11 hx hb dX9_begin_66 rfl rfl ?_
      obtain ⟨g6, hf⟩ := e_g hf
      refine a_ld X hH (aa_32 G) g6 dX9_begin_67 ?_
      refine lv_iconst (v := 1) hx hb dX9_begin_68 (by decide) ?_
      refine lv_iadd hx hb dX9_begin_69 ?_
      obtain ⟨g7, hf⟩ := e_g hf
      obtain ⟨τ8, eτ8, hf⟩ := e_l hf
      refine a_st X hH (aa_32 G) g7 dX9_begin_70 (fun H locs hH => ?_)
      have hH : Hs G τ8 s H locs := by rw [eτ8]; exact hH
      obtain ⟨x9, ex9, hf⟩ := e_l hf
      refine lv_iinc (v := x9) (lv' := [(2, .int x9), (0, .ref (aG G 31)), (1, .ref (aG G 11))]) hx hb dX9_begin_71 hl (k := 2) rfl (by rw [ex9]; rfl) (by decide) rfl (fun ls hl => ?_)
      refine lv_goto (tgt := 40) hx hb dX9_begin_74 (by decide) ?_
      exact hk40 _ _ _ _ _ hH (lv_sub hl [1, 2, 0] rfl) hf
theorem b_Sp_begin_31_11_40 {l : Launch} {G : GT} {N : Nat} {p : Program} {e : Env} {s : State} {m : MethodId} {args : Array Value} {below : List Frame} {meth : Method} {c : Code} (X : Cx G p s m args meth c cX9_begin 3 RX9 none) {r : Int32} {υ : Hp} : ∀ (n : Nat) (τ : Hp) (v2 : Int32) (H : Heap) (locs : List Loc) (ls : Array Slot), Hs G τ s H locs → lv_has ls 3 [(0, .ref (aG G 31)), (1, .ref (aG G 11)), (2, .int v2)] → f_Sp_begin_L40 N 31 11 n τ v2 = some (r, υ) → WV l G (rmG 2 43) p e s m args below meth c υ H locs (F0 m 40 ls []) := by
  intro n
  induction n with
  | zero => intro τ v2 H locs ls hH hl hf; exact nomatch (show (none : OR) = some (r, υ) from hf)
  | succ n ih => intro τ v2 H locs ls hH hl hf; exact b_Sp_begin_31_11_40b (N := N) X ih hH hl hf
set_option maxHeartbeats 4000000 in
set_option maxRecDepth 100000 in
theorem b_Sp_begin_31_11_10b {l : Launch} {G : GT} {N : Nat} {p : Program} {e : Env} {s : State} {m : MethodId} {args : Array Value} {below : List Frame} {meth : Method} {c : Code} (X : Cx G p s m args meth c cX9_begin 3 RX9 none) {r : Int32} {υ : Hp} {k10 : Hp → Int32 → OR} (hk10 : ∀ (τ : Hp) (v2 : Int32) (H : Heap) (locs : List Loc) (ls : Array Slot), Hs G τ s H locs → lv_has ls 3 [(0, .ref (aG G 31)), (1, .ref (aG G 11)), (2, .int v2)] → k10 τ v2 = some (r, υ) → WV l G (rmG 2 43) p e s m args below meth c υ H locs (F0 m 10 ls [])) {τ : Hp} {v2 : Int32} {H : Heap} {locs : List Loc} {ls : Array Slot} (hH : Hs G τ s H locs) (hl : lv_has ls 3 [(0, .ref (aG G 31)), (1, .ref (aG G 11)), (2, .int v2)]) (hf : f_Sp_begin_L10b N 31 11 k10 τ v2 = some (r, υ)) : WV l G (rmG 2 43) p e s m args below meth c υ H locs (F0 m 10 ls []) := by
  have hx := X.hx
  have hb := X.hb
  unfold f_Sp_begin_L10b at hf
  refine lv_iload_n hx hb dX9_begin_10 rfl (lv_at hl 2 rfl) ?_
  refine lv_bipush (v := 8) hx hb dX9_begin_11 (by decide) ?_
  refine lv_icmp_ge (tgt := 38) hx hb dX9_begin_13 (by decide) (fun c1 => ?_) (fun c1 => ?_)
  · have hf := e_t c1 hf
    refine lv_iconst (v := 0) hx hb dX9_begin_38 (by decide) ?_
    refine lv_istore_n (lv' := [(2, .int 0), (0, .ref (aG G 31)), (1, .ref (aG G 11))]) hx hb dX9_begin_39 rfl hl (by decide) rfl (fun ls hl => ?_)
    exact b_Sp_begin_31_11_40 (N := N) X _ _ _ _ _ _ hH (lv_sub hl [1, 2, 0] rfl) hf
  · have hf := e_f c1 hf
    refine lv_aload_n hx hb dX9_begin_16 rfl (lv_at hl 0 rfl) ?_
    refine g_get X hH (fa_31_0 G) tw_135 dX9_begin_17 ?_
    refine lv_iload_n hx hb dX9_begin_20 rfl (lv_at hl 2 rfl) ?_
    refine lv_iconst (v := 0) hx hb dX9_begin_21 (by decide) ?_
    obtain ⟨g2, hf⟩ := e_g hf
    obtain ⟨τ3, eτ3, hf⟩ := e_l hf
    refine a_st X hH (aa_32 G) g2 dX9_begin_22 (fun H locs hH => ?_)
    have hH : Hs G τ3 s H locs := by rw [eτ3]; exact hH
    refine lv_aload_n hx hb dX9_begin_23 rfl (lv_at hl 0 rfl) ?_
    refine g_get X hH (fa_31_1 G) tw_136 dX9_begin_24 ?_
    refine lv_iload_n hx hb dX9_begin_27 rfl (lv_at hl 2 rfl) ?_
    refine lv_iconst (v := 1) hx hb dX9_begin_28 (by decide) ?_
    refine lv_iload_n hx hb dX9_begin_29 rfl (lv_at hl 2 rfl) ?_
    refine lv_ishl hx hb dX9_begin_30 ?_
    obtain ⟨g4, hf⟩ := e_g hf
    obtain ⟨τ5, eτ5, hf⟩ := e_l hf
    refine a_st X hH (aa_33 G) g4 dX9_begin_31 (fun H locs hH => ?_)
    have hH : Hs G τ5 s H locs := by rw [eτ5]; exact hH
    obtain ⟨x6, ex6, hf⟩ := e_l hf
    refine lv_iinc (v := x6) (lv' := [(2, .int x6), (0, .ref (aG G 31)), (1, .ref (aG G 11))]) hx hb dX9_begin_32 hl (k := 2) rfl (by rw [ex6]; rfl) (by decide) rfl (fun ls hl => ?_)
    refine lv_goto (tgt := 10) hx hb dX9_begin_35 (by decide) ?_
    exact hk10 _ _ _ _ _ hH (lv_sub hl [1, 2, 0] rfl) hf
theorem b_Sp_begin_31_11_10 {l : Launch} {G : GT} {N : Nat} {p : Program} {e : Env} {s : State} {m : MethodId} {args : Array Value} {below : List Frame} {meth : Method} {c : Code} (X : Cx G p s m args meth c cX9_begin 3 RX9 none) {r : Int32} {υ : Hp} : ∀ (n : Nat) (τ : Hp) (v2 : Int32) (H : Heap) (locs : List Loc) (ls : Array Slot), Hs G τ s H locs → lv_has ls 3 [(0, .ref (aG G 31)), (1, .ref (aG G 11)), (2, .int v2)] → f_Sp_begin_L10 N 31 11 n τ v2 = some (r, υ) → WV l G (rmG 2 43) p e s m args below meth c υ H locs (F0 m 10 ls []) := by
  intro n
  induction n with
  | zero => intro τ v2 H locs ls hH hl hf; exact nomatch (show (none : OR) = some (r, υ) from hf)
  | succ n ih => intro τ v2 H locs ls hH hl hf; exact b_Sp_begin_31_11_10b (N := N) X ih hH hl hf
set_option maxHeartbeats 4000000 in
set_option maxRecDepth 100000 in
theorem b_Sp_begin_31_11_0 {l : Launch} {G : GT} {N : Nat} {p : Program} {e : Env} {s : State} {m : MethodId} {args : Array Value} {below : List Frame} {meth : Method} {c : Code} (X : Cx G p s m args meth c cX9_begin 3 RX9 none) {r : Int32} {υ : Hp} {τ : Hp} {H : Heap} {locs : List Loc} {ls : Array Slot} (hH : Hs G τ s H locs) (hl : lv_has ls 3 [(0, .ref (aG G 31)), (1, .ref (aG G 11))]) (hf : f_Sp_begin N 31 11 τ = some (r, υ)) : WV l G (rmG 2 43) p e s m args below meth c υ H locs (F0 m 0 ls []) := by
  have hx := X.hx
  have hb := X.hb
  unfold f_Sp_begin at hf
  refine lv_aload_n hx hb dX9_begin_0 rfl (lv_at hl 0 rfl) ?_
  refine lv_aload_n hx hb dX9_begin_1 rfl (lv_at hl 1 rfl) ?_
  obtain ⟨r1, τ2, hc3, hf⟩ := e_b hf
  refine c_Vi X hH (k := 11) (n := 0) (As := []) (rest := [.ref (aG G 31)]) (c_Ly_roomCount_11 l G (N := N) hc3) (by decide) rfl rfl tw_428 tw_425 tw_426 tw_427 tw_6 (by decide +kernel) ⟨by decide, by decide⟩ rfl hl.1 rfl (Nat.le_of_ble_eq_true rfl) ⟨Nat.zero_le _, Nat.zero_le _⟩ dX9_begin_2 (fun H locs hH => ?_)
  obtain ⟨τ4, eτ4, hf⟩ := e_l hf
  refine g_put X hH (fp_31_2 G) tw_137 rfl rfl dX9_begin_5 (fun H locs hH => ?_)
  have hH : Hs G τ4 s H locs := by rw [eτ4]; exact hH
  refine lv_iconst (v := 0) hx hb dX9_begin_8 (by decide) ?_
  refine lv_istore_n (lv' := [(2, .int 0), (0, .ref (aG G 31)), (1, .ref (aG G 11))]) hx hb dX9_begin_9 rfl hl (by decide) rfl (fun ls hl => ?_)
  exact b_Sp_begin_31_11_10 (N := N) X _ _ _ _ _ _ hH (lv_sub hl [1, 2, 0] rfl) hf
theorem c_Sp_begin_31_11 (l : Launch) (G : GT) {N : Nat} {τ υ : Hp} {r : Int32} (hf : f_Sp_begin N 31 11 τ = some (r, υ)) : MV l G yX9_begin cX9_begin 3 2 43 [.ref (aG G 31), .ref (aG G 11)] τ υ := mk_V (by decide) (Nat.le_of_ble_eq_true rfl) (fun p e s m args below meth c X hH ls hl => b_Sp_begin_31_11_0 (N := N) X hH (lv_sub hl [0, 1] rfl) hf)
set_option maxHeartbeats 4000000 in
set_option maxRecDepth 100000 in
theorem b_Sh_gatherCans_30_10_3_18b {l : Launch} {G : GT} {N : Nat} {p : Program} {e : Env} {s : State} {m : MethodId} {args : Array Value} {below : List Frame} {meth : Method} {c : Code} (X : Cx G p s m args meth c cX8_gatherCans 5 RX8 (some .boolean)) {r : Int32} {υ : Hp} {k18 : Hp → Int32 → OR} (hk18 : ∀ (τ : Hp) (v3 : Int32) (H : Heap) (locs : List Loc) (ls : Array Slot), Hs G τ s H locs → lv_has ls 5 [(0, .ref (aG G 30)), (1, .ref (aG G 10)), (2, .ref (aG G 3)), (3, .int v3)] → k18 τ v3 = some (r, υ) → WI l G (rmG 4 91) p e s m args below meth c r υ H locs (F0 m 18 ls [])) {τ : Hp} {v3 : Int32} {H : Heap} {locs : List Loc} {ls : Array Slot} (hH : Hs G τ s H locs) (hl : lv_has ls 5 [(0, .ref (aG G 30)), (1, .ref (aG G 10)), (2, .ref (aG G 3)), (3, .int v3)]) (hf : f_Sh_gatherCans_L18b N 30 10 3 k18 τ v3 = some (r, υ)) : WI l G (rmG 4 91) p e s m args below meth c r υ H locs (F0 m 18 ls []) := by
  have hx := X.hx
  have hb := X.hb
  unfold f_Sh_gatherCans_L18b at hf
  refine lv_iload_n hx hb dX8_gatherCans_18 rfl (lv_at hl 3 rfl) ?_
  refine lv_aload_n hx hb dX8_gatherCans_19 rfl (lv_at hl 1 rfl) ?_
  refine g_getN X hH (fa_10_3 G) 44 rfl dX8_gatherCans_20 ?_
  refine lv_icmp_ge (tgt := 120) hx hb dX8_gatherCans_23 (by decide) (fun c1 => ?_) (fun c1 => ?_)
  · have hf := e_t c1 hf
    refine lv_aload_n hx hb dX8_gatherCans_120 rfl (lv_at hl 0 rfl) ?_
    refine g_get X hH (fa_30_0 G) tw_147 dX8_gatherCans_121 ?_
    refine g_getN X hH (fa_31_1 G) 49 rfl dX8_gatherCans_124 ?_
    refine lv_iconst (v := 0) hx hb dX8_gatherCans_127 (by decide) ?_
    refine lv_aload_n hx hb dX8_gatherCans_128 rfl (lv_at hl 0 rfl) ?_
    refine g_get X hH (fa_30_1 G) tw_148 dX8_gatherCans_129 ?_
    refine lv_iconst (v := 0) hx hb dX8_gatherCans_132 (by decide) ?_
    refine lv_bipush (v := 8) hx hb dX8_gatherCans_133 (by decide) ?_
    obtain ⟨τ2, eτ2, hf⟩ := e_l hf
    refine a_cp X hH (aa_33 G) (aa_34 G) (N := 8) hl.1.symm tw_471 tw_336 tw_335 tw_15 (by decide) (by decide) (by decide) (by decide) (by decide) (Nat.le_of_ble_eq_true rfl) dX8_gatherCans_135 (fun H locs hH => ?_)
    have hH : Hs G τ2 s H locs := by rw [eτ2]; exact hH
    refine lv_iconst (v := 1) hx hb dX8_gatherCans_138 (by decide) ?_
    exact r_z X hH rfl hf dX8_gatherCans_139
  · have hf := e_f c1 hf
    refine lv_aload_n hx hb dX8_gatherCans_26 rfl (lv_at hl 1 rfl) ?_
    refine g_getN X hH (fa_10_2 G) 41 rfl dX8_gatherCans_27 ?_
    refine lv_iload_n hx hb dX8_gatherCans_30 rfl (lv_at hl 3 rfl) ?_
    obtain ⟨g3, hf⟩ := e_g hf
    refine a_ld X hH (aa_17 G) g3 dX8_gatherCans_31 ?_
    obtain ⟨x4, ex4, hf⟩ := e_l hf
    refine g_nm ex4 ?_
    refine lv_istore (lv' := [(4, .int x4), (0, .ref (aG G 30)), (1, .ref (aG G 10)), (2, .ref (aG G 3)), (3, .int v3)]) hx hb dX8_gatherCans_32 hl (by decide) rfl (fun ls hl => ?_)
    refine lv_aload_n hx hb dX8_gatherCans_34 rfl (lv_at hl 2 rfl) ?_
    refine lv_iload hx hb dX8_gatherCans_35 (lv_at hl 0 rfl) ?_
    refine lv_aload_n hx hb dX8_gatherCans_37 rfl (lv_at hl 3 rfl) ?_
    obtain ⟨r5, τ6, hc7, hf⟩ := e_b hf
    refine c_Vi X hH (k := 10) (n := 2) (As := [.int _, .ref (aG G 3)]) (rest := []) (c_Pl_isMustBy_10_3 l G (N := N) hc7) (by decide) rfl rfl tw_395 tw_468 tw_393 tw_394 tw_5 (by decide +kernel) ⟨by decide, by decide⟩ rfl hl.1 rfl (Nat.le_of_ble_eq_true rfl) ⟨Nat.zero_le _, Nat.zero_le _⟩ dX8_gatherCans_38 (fun H locs hH => ?_)
    refine lv_if_eq (tgt := 56) hx hb dX8_gatherCans_41 (by decide) (fun c8 => ?_) (fun c8 => ?_)
    · have hf := e_t c8 hf
      refine lv_aload_n hx hb dX8_gatherCans_56 rfl (lv_at hl 1 rfl) ?_
      refine g_get X hH (fa_30_5 G) tw_152 dX8_gatherCans_57 ?_
      refine lv_bipush (v := 12) hx hb dX8_gatherCans_60 (by decide) ?_
      refine lv_icmp_lt (tgt := 67) hx hb dX8_gatherCans_62 (by decide) (fun c9 => ?_) (fun c9 => ?_)
      · have hf := e_t c9 hf
        refine lv_aload_n hx hb dX8_gatherCans_67 rfl (lv_at hl 1 rfl) ?_
        refine g_get X hH (fa_30_2 G) tw_149 dX8_gatherCans_68 ?_
        refine lv_aload_n hx hb dX8_gatherCans_71 rfl (lv_at hl 1 rfl) ?_
        refine g_get X hH (fa_30_5 G) tw_152 dX8_gatherCans_72 ?_
        refine lv_iload_n hx hb dX8_gatherCans_75 rfl (lv_at hl 4 rfl) ?_
        obtain ⟨g10, hf⟩ := e_g hf
        obtain ⟨τ11, eτ11, hf⟩ := e_l hf
        refine a_st X hH (aa_35 G) g10 dX8_gatherCans_76 (fun H locs hH => ?_)
        have hH : Hs G τ11 s H locs := by rw [eτ11]; exact hH
        refine lv_aload_n hx hb dX8_gatherCans_77 rfl (lv_at hl 1 rfl) ?_
        refine g_get X hH (fa_30_3 G) tw_150 dX8_gatherCans_78 ?_
        refine lv_aload_n hx hb dX8_gatherCans_81 rfl (lv_at hl 1 rfl) ?_
        refine g_get X hH (fa_30_5 G) tw_152 dX8_gatherCans_82 ?_
        refine lv_iload hx hb dX8_gatherCans_85 (lv_at hl 0 rfl) ?_
        obtain ⟨g12, hf⟩ := e_g hf
        obtain ⟨τ13, eτ13, hf⟩ := e_l hf
        refine a_st X hH (aa_36 G) g12 dX8_gatherCans_87 (fun H locs hH => ?_)
        have hH : Hs G τ13 s H locs := by rw [eτ13]; exact hH
        refine lv_aload_n hx hb dX8_gatherCans_88 rfl (lv_at hl 1 rfl) ?_
        refine g_get X hH (fa_30_4 G) tw_151 dX8_gatherCans_89 ?_
        refine lv_aload_n hx hb dX8_gatherCans_92 rfl (lv_at hl 1 rfl) ?_
        refine g_get X hH (fa_30_5 G) tw_152 dX8_gatherCans_93 ?_
        refine lv_aload_n hx hb dX8_gatherCans_96 rfl (lv_at hl 2 rfl) ?_
        refine lv_iload hx hb dX8_gatherCans_97 (lv_at hl 0 rfl) ?_
        refine lv_iconst (v := 1) hx hb dX8_gatherCans_99 (by decide) ?_
        obtain ⟨r14, τ15, hc16, hf⟩ := e_b hf
        refine c_Vi X hH (k := 10) (n := 2) (As := [.int _, .int _]) (rest := [.int _, .ref (aG G 37)]) (c_Pl_weightBy_10 l G (N := N) hc16) (by decide) rfl rfl tw_390 tw_470 tw_388 tw_389 tw_5 (by decide +kernel) ⟨by decide, by decide⟩ rfl hl.1 rfl (Nat.le_of_ble_eq_true rfl) ⟨Nat.zero_le _, Nat.zero_le _⟩ dX8_gatherCans_100 (fun H locs hH => ?_)
        obtain ⟨g17, hf⟩ := e_g hf
        obtain ⟨τ18, eτ18, hf⟩ := e_l hf
        refine a_st X hH (aa_37 G) g17 dX8_gatherCans_103 (fun H locs hH => ?_)
        have hH : Hs G τ18 s H locs := by rw [eτ18]; exact hH
        refine lv_aload_n hx hb dX8_gatherCans_104 rfl (lv_at hl 1 rfl) ?_
        refine lv_dup hx hb dX8_gatherCans_105 rfl ?_
        refine g_get X hH (fa_30_5 G) tw_152 dX8_gatherCans_106 ?_
        refine lv_iconst (v := 1) hx hb dX8_gatherCans_109 (by decide) ?_
        refine lv_iadd hx hb dX8_gatherCans_110 ?_
        obtain ⟨τ19, eτ19, hf⟩ := e_l hf
        refine g_put X hH (fp_30_5 G) tw_152 rfl rfl dX8_gatherCans_111 (fun H locs hH => ?_)
        have hH : Hs G τ19 s H locs := by rw [eτ19]; exact hH
        obtain ⟨x20, ex20, hf⟩ := e_l hf
        refine lv_iinc (v := x20) (lv' := [(3, .int x20), (4, .int x4), (0, .ref (aG G 30)), (1, .ref (aG G 10)), (2, .ref (aG G 3))]) hx hb dX8_gatherCans_114 hl (k := 4) rfl (by rw [ex20]; rfl) (by decide) rfl (fun ls hl => ?_)
        refine lv_goto (tgt := 18) hx hb dX8_gatherCans_117 (by decide) ?_
        exact hk18 _ _ _ _ _ hH (lv_sub hl [2, 3, 4, 0] rfl) hf
      · have hf := e_f c9 hf
        refine lv_iconst (v := 0) hx hb dX8_gatherCans_65 (by decide) ?_
        exact r_z X hH rfl hf dX8_gatherCans_66
    · have hf := e_f c8 hf
      refine lv_aload_n hx hb dX8_gatherCans_44 rfl (lv_at hl 1 rfl) ?_
      refine g_get X hH (fa_30_0 G) tw_147 dX8_gatherCans_45 ?_
      refine lv_iload hx hb dX8_gatherCans_48 (lv_at hl 0 rfl) ?_
      obtain ⟨r21, τ22, hc23, hf⟩ := e_b hf
      refine c_Vv X hH (k := 31) (n := 1) (As := [.int _]) (rest := []) (c_Sp_addRule_31 l G (N := N) hc23) (by decide) rfl rfl tw_433 tw_469 tw_431 tw_432 tw_10 (by decide +kernel) ⟨by decide, by decide⟩ rfl hl.1 rfl (Nat.le_of_ble_eq_true rfl) ⟨Nat.zero_le _, Nat.zero_le _⟩ dX8_gatherCans_50 (fun H locs hH => ?_)
      refine lv_goto (tgt := 114) hx hb dX8_gatherCans_53 (by decide) ?_
      obtain ⟨x24, ex24, hf⟩ := e_l hf
      refine lv_iinc (v := x24) (lv' := [(3, .int x24), (4, .int x4), (0, .ref (aG G 30)), (1, .ref (aG G 10)), (2, .ref (aG G 3))]) hx hb dX8_gatherCans_114 hl (k := 4) rfl (by rw [ex24]; rfl) (by decide) rfl (fun ls hl => ?_)
      refine lv_goto (tgt := 18) hx hb dX8_gatherCans_117 (by decide) ?_
      exact hk18 _ _ _ _ _ hH (lv_sub hl [2, 3, 4, 0] rfl) hf
theorem b_Sh_gatherCans_30_10_3_18 {l : Launch} {G : GT} {N : Nat} {p : Program} {e : Env} {s : State} {m : MethodId} {args : Array Value} {below : List Frame} {meth : Method} {c : Code} (X : Cx G p s m args meth c cX8_gatherCans 5 RX8 (some .boolean)) {r : Int32} {υ : Hp} : ∀ (n : Nat) (τ : Hp) (v3 : Int32) (H : Heap) (locs : List Loc) (ls : Array Slot), Hs G τ s H locs → lv_has ls 5 [(0, .ref (aG G 30)), (1, .ref (aG G 10)), (2, .ref (aG G 3)), (3, .int v3)] → f_Sh_gatherCans_L18 N 30 10 3 n τ v3 = some (r, υ) → WI l G (rmG 4 91) p e s m args below meth c r υ H locs (F0 m 18 ls []) := by
  intro n
  induction n with
  | zero => intro τ v3 H locs ls hH hl hf; exact nomatch (show (none : OR) = some (r, υ) from hf)
  | succ n ih => intro τ v3 H locs ls hH hl hf; exact b_Sh_gatherCans_30_10_3_18b (N := N) X ih hH hl hf
set_option maxHeartbeats 4000000 in
set_option maxRecDepth 100000 in
theorem b_Sh_gatherCans_30_10_3_0 {l : Launch} {G : GT} {N : Nat} {p : Program} {e : Env} {s : State} {m : MethodId} {args : Array Value} {below : List Frame} {meth : Method} {c : Code} (X : Cx G p s m args meth c cX8_gatherCans 5 RX8 (some .boolean)) {r : Int32} {υ : Hp} {τ : Hp} {H : Heap} {locs : List Loc} {ls : Array Slot} (hH : Hs G τ s H locs) (hl : lv_has ls 5 [(0, .ref (aG G 30)), (1, .ref (aG G 10)), (2, .ref (aG G 3))]) (hf : f_Sh_gatherCans N 30 10 3 τ = some (r, υ)) : WI l G (rmG 4 91) p e s m args below meth c r υ H locs (F0 m 0 ls []) := by
  have hx := X.hx
  have hb := X.hb
  unfold f_Sh_gatherCans at hf
  refine lv_aload_n hx hb dX8_gatherCans_0 rfl (lv_at hl 0 rfl) ?_
  refine lv_iconst (v := 0) hx hb dX8_gatherCans_1 (by decide) ?_
  obtain ⟨τ1, eτ1, hf⟩ := e_l hf
  refine g_put X hH (fp_30_5 G) tw_152 rfl rfl dX8_gatherCans_2 (fun H locs hH => ?_)
  have hH : Hs G τ1 s H locs := by rw [eτ1]; exact hH
  refine lv_aload_n hx hb dX8_gatherCans_5 rfl (lv_at hl 0 rfl) ?_
  refine g_get X hH (fa_30_0 G) tw_147 dX8_gatherCans_6 ?_
  refine lv_aload_n hx hb dX8_gatherCans_9 rfl (lv_at hl 1 rfl) ?_
  refine g_getN X hH (fa_10_0 G) 37 rfl dX8_gatherCans_10 ?_
  obtain ⟨r2, τ3, hc4, hf⟩ := e_b hf
  refine c_Vv X hH (k := 31) (n := 1) (As := [.ref (aG G 11)]) (rest := []) (c_Sp_begin_31_11 l G (N := N) hc4) (by decide) rfl rfl tw_424 tw_467 tw_422 tw_423 tw_10 (by decide +kernel) ⟨by decide, by decide⟩ rfl hl.1 rfl (Nat.le_of_ble_eq_true rfl) ⟨Nat.zero_le _, Nat.zero_le _⟩ dX8_gatherCans_13 (fun H locs hH => ?_)
  refine lv_iconst (v := 0) hx hb dX8_gatherCans_16 (by decide) ?_
  refine lv_istore_n (lv' := [(3, .int 0), (0, .ref (aG G 30)), (1, .ref (aG G 10)), (2, .ref (aG G 3))]) hx hb dX8_gatherCans_17 rfl hl (by decide) rfl (fun ls hl => ?_)
  exact b_Sh_gatherCans_30_10_3_18 (N := N) X _ _ _ _ _ _ hH (lv_sub hl [1, 2, 3, 0] rfl) hf
theorem c_Sh_gatherCans_30_10_3 (l : Launch) (G : GT) {N : Nat} {τ υ : Hp} {r : Int32} (hf : f_Sh_gatherCans N 30 10 3 τ = some (r, υ)) : MI l G yX8_gatherCans cX8_gatherCans 5 (some .boolean) 4 91 [.ref (aG G 30), .ref (aG G 10), .ref (aG G 3)] τ r υ := mk_I (by decide) (Nat.le_of_ble_eq_true rfl) (fun p e s m args below meth c X hH ls hl => b_Sh_gatherCans_30_10_3_0 (N := N) X hH (lv_sub hl [0, 1, 2] rfl) hf)
set_option maxHeartbeats 4000000 in
set_option maxRecDepth 100000 in
theorem b_Sh_seekSet_30_10_3_51b {l : Launch} {G : GT} {N : Nat} {p : Program} {e : Env} {s : State} {m : MethodId} {args : Array Value} {below : List Frame} {meth : Method} {c : Code} (X : Cx G p s m args meth c cX8_seekSet 9 RX8 (some .int)) {r : Int32} {υ : Hp} {k51 : Hp → Int32 → Int32 → Int32 → Int32 → Int32 → OR} (hk51 : ∀ (τ : Hp) (v3 v4 v5 v6 v7 : Int32) (H : Heap) (locs : List Loc) (ls : Array Slot), Hs G τ s H locs → lv_has ls 9 [(0, .ref (aG G 30)), (3, .int v3), (4, .int v4), (5, .int v5), (6, .int v6), (7, .int v7)] → k51 τ v3 v4 v5 v6 v7 = some (r, υ) → WI l G (rmG 5 115) p e s m args below meth c r υ H locs (F0 m 51 ls [])) {τ : Hp} {v3 v4 v5 v6 v7 : Int32} {H : Heap} {locs : List Loc} {ls : Array Slot} (hH : Hs G τ s H locs) (hl : lv_has ls 9 [(0, .ref (aG G 30)), (3, .int v3), (4, .int v4), (5, .int v5), (6, .int v6), (7, .int v7)]) (hf : f_Sh_seekSet_L51b N 30 10 3 k51 τ v3 v4 v5 v6 v7 = some (r, υ)) : WI l G (rmG 5 115) p e s m args below meth c r υ H locs (F0 m 51 ls []) := by
  have hx := X.hx
  have hb := X.hb
  unfold f_Sh_seekSet_L51b at hf
  refine lv_iload hx hb dX8_seekSet_51 (lv_at hl 5 rfl) ?_
  refine lv_iload hx hb dX8_seekSet_53 (lv_at hl 2 rfl) ?_
  refine lv_icmp_ge (tgt := 97) hx hb dX8_seekSet_55 (by decide) (fun c1 => ?_) (fun c1 => ?_)
  · have hf := e_t c1 hf
    refine lv_aload_n hx hb dX8_seekSet_97 rfl (lv_at hl 0 rfl) ?_
    refine lv_iload hx hb dX8_seekSet_98 (lv_at hl 3 rfl) ?_
    obtain ⟨r2, τ3, hc4, hf⟩ := e_b hf
    refine c_Vv X hH (k := 30) (n := 1) (As := [.int _]) (rest := []) (c_Sh_choose_30 l G (N := N) hc4) (by decide) rfl rfl tw_482 tw_480 tw_481 tw_768 tw_11 (by decide +kernel) ⟨by decide, by decide⟩ rfl hl.1 rfl (Nat.le_of_ble_eq_true rfl) ⟨Nat.zero_le _, Nat.zero_le _⟩ dX8_seekSet_100 (fun H locs hH => ?_)
    refine lv_iload hx hb dX8_seekSet_103 (lv_at hl 4 rfl) ?_
    exact r_i X hH hf dX8_seekSet_105
  · have hf := e_f c1 hf
    refine lv_aload_n hx hb dX8_seekSet_58 rfl (lv_at hl 0 rfl) ?_
    refine lv_iload hx hb dX8_seekSet_59 (lv_at hl 5 rfl) ?_
    obtain ⟨r5, τ6, hc7, hf⟩ := e_b hf
    refine c_Vi X hH (k := 30) (n := 1) (As := [.int _]) (rest := []) (c_Sh_tollOf_30 l G (N := N) hc7) (by decide) rfl rfl tw_479 tw_477 tw_478 tw_767 tw_11 (by decide +kernel) ⟨by decide, by decide⟩ rfl hl.1 rfl (Nat.le_of_ble_eq_true rfl) ⟨Nat.zero_le _, Nat.zero_le _⟩ dX8_seekSet_61 (fun H locs hH => ?_)
    refine lv_istore (lv' := [(8, .int r5), (0, .ref (aG G 30)), (3, .int v3), (4, .int v4), (5, .int v5), (6, .int v6), (7, .int v7)]) hx hb dX8_seekSet_64 hl (by decide) rfl (fun ls hl => ?_)
    refine lv_iload hx hb dX8_seekSet_66 (lv_at hl 0 rfl) ?_
    refine lv_iload hx hb dX8_seekSet_68 (lv_at hl 5 rfl) ?_
    refine lv_icmp_ge (tgt := 91) hx hb dX8_seekSet_70 (by decide) (fun c8 => ?_) (fun c8 => ?_)
    · have hf := e_t c8 hf
      obtain ⟨x9, ex9, hf⟩ := e_l hf
      refine lv_iinc (v := x9) (lv' := [(7, .int x9), (8, .int r5), (0, .ref (aG G 30)), (3, .int v3), (4, .int v4), (5, .int v5), (6, .int v6)]) hx hb dX8_seekSet_91 hl (k := 6) rfl (by rw [ex9]; rfl) (by decide) rfl (fun ls hl => ?_)
      refine lv_goto (tgt := 51) hx hb dX8_seekSet_94 (by decide) ?_
      exact hk51 _ _ _ _ _ _ _ _ _ hH (lv_sub hl [2, 3, 4, 5, 6, 0] rfl) hf
    · have hf := e_f c8 hf
      refine lv_aload_n hx hb dX8_seekSet_73 rfl (lv_at hl 1 rfl) ?_
      refine lv_iload hx hb dX8_seekSet_74 (lv_at hl 6 rfl) ?_
      obtain ⟨r10, τ11, hc12, hf⟩ := e_b hf
      refine c_Vi X hH (k := 30) (n := 1) (As := [.int _]) (rest := []) (c_Sh_widestWithout_30 l G (N := N) hc12) (by decide) rfl rfl tw_474 tw_472 tw_473 tw_766 tw_11 (by decide +kernel) ⟨by decide, by decide⟩ rfl hl.1 rfl (Nat.le_of_ble_eq_true rfl) ⟨Nat.zero_le _, Nat.zero_le _⟩ dX8_seekSet_76 (fun H locs hH => ?_)
      refine lv_iload_n hx hb dX8_seekSet_79 rfl (lv_at hl 2 rfl) ?_
      refine lv_icmp_gt (tgt := 91) hx hb dX8_seekSet_80 (by decide) (fun c13 => ?_) (fun c13 => ?_)
      · have hf := e_t c13 hf
        obtain ⟨x14, ex14, hf⟩ := e_l hf
        refine lv_iinc (v := x14) (lv' := [(7, .int x14), (8, .int r5), (0, .ref (aG G 30)), (3, .int v3), (4, .int v4), (5, .int v5), (6, .int v6)]) hx hb dX8_seekSet_91 hl (k := 6) rfl (by rw [ex14]; rfl) (by decide) rfl (fun ls hl => ?_)
        refine lv_goto (tgt := 51) hx hb dX8_seekSet_94 (by decide) ?_
        exact hk51 _ _ _ _ _ _ _ _ _ hH (lv_sub hl [2, 3, 4, 5, 6, 0] rfl) hf
      · have hf := e_f c13 hf
        refine lv_iload hx hb dX8_seekSet_83 (lv_at hl 6 rfl) ?_
        refine lv_istore (lv' := [(5, .int v7), (8, .int r5), (0, .ref (aG G 30)), (3, .int v3), (4, .int v4), (6, .int v6), (7, .int v7)]) hx hb dX8_seekSet_85 hl (by decide) rfl (fun ls hl => ?_)
        refine lv_iload hx hb dX8_seekSet_87 (lv_at hl 1 rfl) ?_
        refine lv_istore (lv' := [(6, .int r5), (5, .int v7), (8, .int r5), (0, .ref (aG G 30)), (3, .int v3), (4, .int v4), (7, .int v7)]) hx hb dX8_seekSet_89 hl (by decide) rfl (fun ls hl => ?_)
        obtain ⟨x15, ex15, hf⟩ := e_l hf
        refine lv_iinc (v := x15) (lv' := [(7, .int x15), (6, .int r5), (5, .int v7), (8, .int r5), (0, .ref (aG G 30)), (3, .int v3), (4, .int v4)]) hx hb dX8_seekSet_91 hl (k := 6) rfl (by rw [ex15]; rfl) (by decide) rfl (fun ls hl => ?_)
        refine lv_goto (tgt := 51) hx hb dX8_seekSet_94 (by decide) ?_
        exact hk51 _ _ _ _ _ _ _ _ _ hH (lv_sub hl [4, 5, 6, 2, 1, 0] rfl) hf
theorem b_Sh_seekSet_30_10_3_51 {l : Launch} {G : GT} {N : Nat} {p : Program} {e : Env} {s : State} {m : MethodId} {args : Array Value} {below : List Frame} {meth : Method} {c : Code} (X : Cx G p s m args meth c cX8_seekSet 9 RX8 (some .int)) {r : Int32} {υ : Hp} : ∀ (n : Nat) (τ : Hp) (v3 v4 v5 v6 v7 : Int32) (H : Heap) (locs : List Loc) (ls : Array Slot), Hs G τ s H locs → lv_has ls 9 [(0, .ref (aG G 30)), (3, .int v3), (4, .int v4), (5, .int v5), (6, .int v6), (7, .int v7)] → f_Sh_seekSet_L51 N 30 10 3 n τ v3 v4 v5 v6 v7 = some (r, υ) → WI l G (rmG 5 115) p e s m args below meth c r υ H locs (F0 m 51 ls []) := by
  intro n
  induction n with
  | zero => intro τ v3 v4 v5 v6 v7 H locs ls hH hl hf; exact nomatch (show (none : OR) = some (r, υ) from hf)
  | succ n ih => intro τ v3 v4 v5 v6 v7 H locs ls hH hl hf; exact b_Sh_seekSet_30_10_3_51b (N := N) X ih hH hl hf
set_option maxHeartbeats 4000000 in
set_option maxRecDepth 100000 in
theorem b_Sh_seekSet_30_10_3_0 {l : Launch} {G : GT} {N : Nat} {p : Program} {e : Env} {s : State} {m : MethodId} {args : Array Value} {below : List Frame} {meth : Method} {c : Code} (X : Cx G p s m args meth c cX8_seekSet 9 RX8 (some .int)) {r : Int32} {υ : Hp} {τ : Hp} {v3 : Int32} {H : Heap} {locs : List Loc} {ls : Array Slot} (hH : Hs G τ s H locs) (hl : lv_has ls 9 [(0, .ref (aG G 30)), (1, .ref (aG G 10)), (2, .ref (aG G 3)), (3, .int v3)]) (hf : f_Sh_seekSet N 30 10 3 τ v3 = some (r, υ)) : WI l G (rmG 5 115) p e s m args below meth c r υ H locs (F0 m 0 ls []) := by
  have hx := X.hx
  have hb := X.hb
  unfold f_Sh_seekSet at hf
  refine lv_aload_n hx hb dX8_seekSet_0 rfl (lv_at hl 0 rfl) ?_
  refine lv_aload_n hx hb dX8_seekSet_1 rfl (lv_at hl 1 rfl) ?_
  refine lv_aload_n hx hb dX8_seekSet_2 rfl (lv_at hl 2 rfl) ?_
  obtain ⟨r1, τ2, hc3, hf⟩ := e_b hf
  refine c_Vi X hH (k := 30) (n := 2) (As := [.ref (aG G 10), .ref (aG G 3)]) (rest := []) (c_Sh_gatherCans_30_10_3 l G (N := N) hc3) (by decide) rfl rfl tw_466 tw_464 tw_465 tw_765 tw_11 (by decide +kernel) ⟨by decide, by decide⟩ rfl hl.1 rfl (Nat.le_of_ble_eq_true rfl) ⟨Nat.zero_le _, Nat.zero_le _⟩ dX8_seekSet_3 (fun H locs hH => ?_)
  refine lv_if_ne (tgt := 12) hx hb dX8_seekSet_6 (by decide) (fun c4 => ?_) (fun c4 => ?_)
  · have hf := e_f c4 hf
    refine lv_iconst (v := 1) hx hb dX8_seekSet_12 (by decide) ?_
    refine lv_aload_n hx hb dX8_seekSet_13 rfl (lv_at hl 0 rfl) ?_
    refine g_get X hH (fa_30_5 G) tw_152 dX8_seekSet_14 ?_
    refine lv_ishl hx hb dX8_seekSet_17 ?_
    obtain ⟨x5, ex5, hf⟩ := e_l hf
    refine g_nm ex5 ?_
    refine lv_istore (lv' := [(4, .int x5), (0, .ref (aG G 30)), (1, .ref (aG G 10)), (2, .ref (aG G 3)), (3, .int v3)]) hx hb dX8_seekSet_18 hl (by decide) rfl (fun ls hl => ?_)
    refine lv_aload_n hx hb dX8_seekSet_20 rfl (lv_at hl 1 rfl) ?_
    refine lv_iload hx hb dX8_seekSet_21 (lv_at hl 0 rfl) ?_
    refine lv_iconst (v := 1) hx hb dX8_seekSet_23 (by decide) ?_
    refine lv_isub hx hb dX8_seekSet_24 ?_
    obtain ⟨r6, τ7, hc8, hf⟩ := e_b hf
    refine c_Vi X hH (k := 30) (n := 1) (As := [.int _]) (rest := []) (c_Sh_widestWithout_30 l G (N := N) hc8) (by decide) rfl rfl tw_474 tw_472 tw_473 tw_766 tw_11 (by decide +kernel) ⟨by decide, by decide⟩ rfl hl.1 rfl (Nat.le_of_ble_eq_true rfl) ⟨Nat.zero_le _, Nat.zero_le _⟩ dX8_seekSet_25 (fun H locs hH => ?_)
    refine lv_iload_n hx hb dX8_seekSet_28 rfl (lv_at hl 4 rfl) ?_
    refine lv_icmp_le (tgt := 34) hx hb dX8_seekSet_29 (by decide) (fun c9 => ?_) (fun c9 => ?_)
    · have hf := e_t c9 hf
      refine lv_iload hx hb dX8_seekSet_34 (lv_at hl 0 rfl) ?_
      refine lv_iconst (v := 1) hx hb dX8_seekSet_36 (by decide) ?_
      refine lv_isub hx hb dX8_seekSet_37 ?_
      obtain ⟨x10, ex10, hf⟩ := e_l hf
      refine g_nm ex10 ?_
      refine lv_istore (lv' := [(5, .int x10), (4, .int x5), (0, .ref (aG G 30)), (1, .ref (aG G 10)), (2, .ref (aG G 3)), (3, .int v3)]) hx hb dX8_seekSet_38 hl (by decide) rfl (fun ls hl => ?_)
      refine lv_aload_n hx hb dX8_seekSet_40 rfl (lv_at hl 2 rfl) ?_
      refine lv_iload hx hb dX8_seekSet_41 (lv_at hl 0 rfl) ?_
      obtain ⟨r11, τ12, hc13, hf⟩ := e_b hf
      refine c_Vi X hH (k := 30) (n := 1) (As := [.int _]) (rest := []) (c_Sh_tollOf_30 l G (N := N) hc13) (by decide) rfl rfl tw_479 tw_477 tw_478 tw_767 tw_11 (by decide +kernel) ⟨by decide, by decide⟩ rfl hl.1 rfl (Nat.le_of_ble_eq_true rfl) ⟨Nat.zero_le _, Nat.zero_le _⟩ dX8_seekSet_43 (fun H locs hH => ?_)
      refine lv_istore (lv' := [(6, .int r11), (5, .int x10), (4, .int x5), (0, .ref (aG G 30)), (1, .ref (aG G 10)), (2, .ref (aG G 3)), (3, .int v3)]) hx hb dX8_seekSet_46 hl (by decide) rfl (fun ls hl => ?_)
      refine lv_iconst (v := 0) hx hb dX8_seekSet_48 (by decide) ?_
      refine lv_istore (lv' := [(7, .int 0), (6, .int r11), (5, .int x10), (4, .int x5), (0, .ref (aG G 30)), (1, .ref (aG G 10)), (2, .ref (aG G 3)), (3, .int v3)]) hx hb dX8_seekSet_49 hl (by decide) rfl (fun ls hl => ?_)
      exact b_Sh_seekSet_30_10_3_51 (N := N) X _ _ _ _ _ _ _ _ _ _ hH (lv_sub hl [4, 7, 3, 2, 1, 0] rfl) hf
    · have hf := e_f c9 hf
      refine lv_iconst (v := (-1)) hx hb dX8_seekSet_32 (by decide) ?_
      exact r_i X hH hf dX8_seekSet_33
  · have hf := e_t c4 hf
    refine lv_bipush (v := (-2)) hx hb dX8_seekSet_9 (by decide) ?_
    exact r_i X hH hf dX8_seekSet_11
theorem c_Sh_seekSet_30_10_3 (l : Launch) (G : GT) {N : Nat} {τ υ : Hp} {v3 : Int32} {r : Int32} (hf : f_Sh_seekSet N 30 10 3 τ v3 = some (r, υ)) : MI l G yX8_seekSet cX8_seekSet 9 (some .int) 5 115 [.ref (aG G 30), .ref (aG G 10), .ref (aG G 3), .int v3] τ r υ := mk_I (by decide) (Nat.le_of_ble_eq_true rfl) (fun p e s m args below meth c X hH ls hl => b_Sh_seekSet_30_10_3_0 (N := N) X hH (lv_sub hl [0, 1, 2, 3] rfl) hf)
set_option maxHeartbeats 4000000 in
set_option maxRecDepth 100000 in
theorem b_WP_shut_0_0 {l : Launch} {G : GT} {N : Nat} {p : Program} {e : Env} {s : State} {m : MethodId} {args : Array Value} {below : List Frame} {meth : Method} {c : Code} (X : Cx G p s m args meth c cX10_shut 2 RX10 (some .int)) {r : Int32} {υ : Hp} {τ : Hp} {v1 : Int32} {H : Heap} {locs : List Loc} {ls : Array Slot} (hH : Hs G τ s H locs) (hl : lv_has ls 2 [(0, .ref (aG G 0)), (1, .int v1)]) (hf : f_WP_shut N 0 τ v1 = some (r, υ)) : WI l G (rmG 6 143) p e s m args below meth c r υ H locs (F0 m 0 ls []) := by
  have hx := X.hx
  have hb := X.hb
  unfold f_WP_shut at hf
  refine lv_aload_n hx hb dX10_shut_0 rfl (lv_at hl 0 rfl) ?_
  refine g_get X hH (fa_0_3 G) tw_177 dX10_shut_1 ?_
  refine g_getN X hH (fa_10_5 G) 47 rfl dX10_shut_4 ?_
  refine lv_if_eq (tgt := 20) hx hb dX10_shut_7 (by decide) (fun c1 => ?_) (fun c1 => ?_)
  · have hf := e_t c1 hf
    refine lv_iconst (v := (-1)) hx hb dX10_shut_20 (by decide) ?_
    exact r_i X hH hf dX10_shut_21
  · have hf := e_f c1 hf
    refine lv_iload_n hx hb dX10_shut_10 rfl (lv_at hl 1 rfl) ?_
    refine lv_iconst (v := 0) hx hb dX10_shut_11 (by decide) ?_
    refine lv_bipush (v := 8) hx hb dX10_shut_12 (by decide) ?_
    obtain ⟨r2, τ3, hc4, hf⟩ := e_b hf
    refine c_Si X hH (n := 3) (As := [.int _, .int _, .int _]) (rest := []) (c_WP_isBetween l G (N := N) hc4) tw_198 tw_196 tw_197 tw_1 (by decide +kernel) ⟨by decide, by decide⟩ rfl hl.1 rfl (Nat.le_of_ble_eq_true rfl) ⟨Nat.zero_le _, Nat.zero_le _⟩ dX10_shut_14 (fun H locs hH => ?_)
    refine lv_if_ne (tgt := 22) hx hb dX10_shut_17 (by decide) (fun c5 => ?_) (fun c5 => ?_)
    · have hf := e_f c5 hf
      refine lv_aload_n hx hb dX10_shut_22 rfl (lv_at hl 0 rfl) ?_
      refine g_get X hH (fa_0_7 G) tw_181 dX10_shut_23 ?_
      refine lv_aload_n hx hb dX10_shut_26 rfl (lv_at hl 0 rfl) ?_
      refine g_get X hH (fa_0_3 G) tw_177 dX10_shut_27 ?_
      refine lv_aload_n hx hb dX10_shut_30 rfl (lv_at hl 0 rfl) ?_
      refine g_get X hH (fa_0_0 G) tw_174 dX10_shut_31 ?_
      refine g_getN X hH (fa_1_1 G) 1 rfl dX10_shut_34 ?_
      refine lv_iload_n hx hb dX10_shut_37 rfl (lv_at hl 1 rfl) ?_
      obtain ⟨r6, τ7, hc8, hf⟩ := e_b hf
      refine c_Vi X hH (k := 30) (n := 3) (As := [.ref (aG G 10), .ref (aG G 3), .int _]) (rest := []) (c_Sh_seekSet_30_10_3 l G (N := N) hc8) (by decide) rfl rfl tw_463 tw_460 tw_461 tw_462 tw_11 (by decide +kernel) ⟨by decide, by decide⟩ rfl hl.1 rfl (Nat.le_of_ble_eq_true rfl) ⟨Nat.zero_le _, Nat.zero_le _⟩ dX10_shut_38 (fun H locs hH => ?_)
      exact r_i X hH hf dX10_shut_41
    · have hf := e_t c5 hf
      refine lv_iconst (v := (-1)) hx hb dX10_shut_20 (by decide) ?_
      exact r_i X hH hf dX10_shut_21
theorem c_WP_shut_0 (l : Launch) (G : GT) {N : Nat} {τ υ : Hp} {v1 : Int32} {r : Int32} (hf : f_WP_shut N 0 τ v1 = some (r, υ)) : MI l G yX10_shut cX10_shut 2 (some .int) 6 143 [.ref (aG G 0), .int v1] τ r υ := mk_I (by decide) (Nat.le_of_ble_eq_true rfl) (fun p e s m args below meth c X hH ls hl => b_WP_shut_0_0 (N := N) X hH (lv_sub hl [0, 1] rfl) hf)
set_option maxHeartbeats 4000000 in
set_option maxRecDepth 100000 in
theorem b_Mo_shut_42_95b {l : Launch} {G : GT} {N : Nat} {p : Program} {e : Env} {s : State} {m : MethodId} {args : Array Value} {below : List Frame} {meth : Method} {c : Code} (X : Cx G p s m args meth c cX11_shut 8 RX11 (some .int)) {r : Int32} {υ : Hp} {k31 : Hp → Int32 → Int32 → Int32 → Int32 → OR} (hk31 : ∀ (τ : Hp) (v1 v2 v3 v4 : Int32) (H : Heap) (locs : List Loc) (ls : Array Slot), Hs G τ s H locs → lv_has ls 8 [(0, .ref (aG G 42)), (1, .int v1), (2, .int v2), (3, .int v3), (4, .int v4)] → k31 τ v1 v2 v3 v4 = some (r, υ) → WI l G (rmG 2 48) p e s m args below meth c r υ H locs (F0 m 31 ls [])) {k95 : Hp → Int32 → Int32 → Int32 → Int32 → Int32 → OR} (hk95 : ∀ (τ : Hp) (v1 v2 v3 v4 v5 : Int32) (H : Heap) (locs : List Loc) (ls : Array Slot), Hs G τ s H locs → lv_has ls 8 [(0, .ref (aG G 42)), (1, .int v1), (2, .int v2), (3, .int v3), (4, .int v4), (5, .int v5)] → k95 τ v1 v2 v3 v4 v5 = some (r, υ) → WI l G (rmG 2 48) p e s m args below meth c r υ H locs (F0 m 95 ls [])) {τ : Hp} {v1 v2 v3 v4 v5 : Int32} {H : Heap} {locs : List Loc} {ls : Array Slot} (hH : Hs G τ s H locs) (hl : lv_has ls 8 [(0, .ref (aG G 42)), (1, .int v1), (2, .int v2), (3, .int v3), (4, .int v4), (5, .int v5)]) (hf : f_Mo_shut_L95b N 42 k31 k95 τ v1 v2 v3 v4 v5 = some (r, υ)) : WI l G (rmG 2 48) p e s m args below meth c r υ H locs (F0 m 95 ls []) := by
  have hx := X.hx
  have hb := X.hb
  unfold f_Mo_shut_L95b at hf
  refine lv_iload hx hb dX11_shut_95 (lv_at hl 5 rfl) ?_
  refine lv_sipush (v := 256) hx hb dX11_shut_97 (by decide) ?_
  refine lv_icmp_ge (tgt := 150) hx hb dX11_shut_100 (by decide) (fun c1 => ?_) (fun c1 => ?_)
  · have hf := e_t c1 hf
    obtain ⟨x2, ex2, hf⟩ := e_l hf
    refine lv_iinc (v := x2) (lv' := [(2, .int x2), (0, .ref (aG G 42)), (1, .int v1), (3, .int v3), (4, .int v4), (5, .int v5)]) hx hb dX11_shut_150 hl (k := 2) rfl (by rw [ex2]; rfl) (by decide) rfl (fun ls hl => ?_)
    obtain ⟨x3, ex3, hf⟩ := e_l hf
    refine lv_iinc (v := x3) (lv' := [(3, .int x3), (2, .int x2), (0, .ref (aG G 42)), (1, .int v1), (4, .int v4), (5, .int v5)]) hx hb dX11_shut_153 hl (k := 3) rfl (by rw [ex3]; rfl) (by decide) rfl (fun ls hl => ?_)
    obtain ⟨x4, ex4, hf⟩ := e_l hf
    refine lv_iinc (v := x4) (lv' := [(4, .int x4), (3, .int x3), (2, .int x2), (0, .ref (aG G 42)), (1, .int v1), (5, .int v5)]) hx hb dX11_shut_156 hl (k := 4) rfl (by rw [ex4]; rfl) (by decide) rfl (fun ls hl => ?_)
    refine lv_goto (tgt := 31) hx hb dX11_shut_159 (by decide) ?_
    exact hk31 _ _ _ _ _ _ _ _ hH (lv_sub hl [3, 4, 2, 1, 0] rfl) hf
  · have hf := e_f c1 hf
    refine lv_aload_n hx hb dX11_shut_103 rfl (lv_at hl 0 rfl) ?_
    refine g_get X hH (fa_42_17 G) tw_543 dX11_shut_104 ?_
    refine lv_iload hx hb dX11_shut_107 (lv_at hl 5 rfl) ?_
    obtain ⟨g5, hf⟩ := e_g hf
    refine z_ld X hH (aa_52 G) g5 dX11_shut_109 ?_
    refine lv_if_eq (tgt := 144) hx hb dX11_shut_110 (by decide) (fun c6 => ?_) (fun c6 => ?_)
    · have hf := e_t c6 hf
      obtain ⟨x7, ex7, hf⟩ := e_l hf
      refine lv_iinc (v := x7) (lv' := [(5, .int x7), (0, .ref (aG G 42)), (1, .int v1), (2, .int v2), (3, .int v3), (4, .int v4)]) hx hb dX11_shut_144 hl (k := 5) rfl (by rw [ex7]; rfl) (by decide) rfl (fun ls hl => ?_)
      refine lv_goto (tgt := 95) hx hb dX11_shut_147 (by decide) ?_
      exact hk95 _ _ _ _ _ _ _ _ _ hH (lv_sub hl [1, 2, 3, 4, 5, 0] rfl) hf
    · have hf := e_f c6 hf
      refine lv_aload_n hx hb dX11_shut_113 rfl (lv_at hl 0 rfl) ?_
      refine lv_iload hx hb dX11_shut_114 (lv_at hl 5 rfl) ?_
      refine lv_iload hx hb dX11_shut_116 (lv_at hl 4 rfl) ?_
      obtain ⟨r8, τ9, hc10, hf⟩ := e_b hf
      refine c_Vi X hH (k := 42) (n := 2) (As := [.int _, .int _]) (rest := []) (c_Mo_isBy_42 l G (N := N) hc10) (by decide) rfl rfl tw_691 tw_689 tw_690 tw_781 tw_13 (by decide +kernel) ⟨by decide, by decide⟩ rfl hl.1 rfl (Nat.le_of_ble_eq_true rfl) ⟨Nat.zero_le _, Nat.zero_le _⟩ dX11_shut_118 (fun H locs hH => ?_)
      refine lv_if_eq (tgt := 144) hx hb dX11_shut_121 (by decide) (fun c11 => ?_) (fun c11 => ?_)
      · have hf := e_t c11 hf
        obtain ⟨x12, ex12, hf⟩ := e_l hf
        refine lv_iinc (v := x12) (lv' := [(5, .int x12), (0, .ref (aG G 42)), (1, .int v1), (2, .int v2), (3, .int v3), (4, .int v4)]) hx hb dX11_shut_144 hl (k := 5) rfl (by rw [ex12]; rfl) (by decide) rfl (fun ls hl => ?_)
        refine lv_goto (tgt := 95) hx hb dX11_shut_147 (by decide) ?_
        exact hk95 _ _ _ _ _ _ _ _ _ hH (lv_sub hl [1, 2, 3, 4, 5, 0] rfl) hf
      · have hf := e_f c11 hf
        refine lv_aload_n hx hb dX11_shut_124 rfl (lv_at hl 0 rfl) ?_
        refine g_get X hH (fa_42_30 G) tw_556 dX11_shut_125 ?_
        refine lv_iload_n hx hb dX11_shut_128 rfl (lv_at hl 2 rfl) ?_
        refine lv_dup2_11 hx hb dX11_shut_129 rfl rfl ?_
        obtain ⟨g13, hf⟩ := e_g hf
        refine a_ld X hH (aa_60 G) g13 dX11_shut_130 ?_
        refine lv_iconst (v := 1) hx hb dX11_shut_131 (by decide) ?_
        refine lv_aload_n hx hb dX11_shut_132 rfl (lv_at hl 0 rfl) ?_
        refine g_get X hH (fa_42_18 G) tw_544 dX11_shut_133 ?_
        refine lv_iload hx hb dX11_shut_136 (lv_at hl 5 rfl) ?_
        obtain ⟨g14, hf⟩ := e_g hf
        refine a_ld X hH (aa_53 G) g14 dX11_shut_138 ?_
        refine g_max X hl.1.symm tw_674 tw_338 tw_16 tw_339 (by decide) (Nat.le_of_ble_eq_true rfl) ⟨Nat.zero_le _, Nat.zero_le _⟩ dX11_shut_139 ?_
        refine lv_iadd hx hb dX11_shut_142 ?_
        obtain ⟨g15, hf⟩ := e_g hf
        obtain ⟨τ16, eτ16, hf⟩ := e_l hf
        refine a_st X hH (aa_60 G) g15 dX11_shut_143 (fun H locs hH => ?_)
        have hH : Hs G τ16 s H locs := by rw [eτ16]; exact hH
        obtain ⟨x17, ex17, hf⟩ := e_l hf
        refine lv_iinc (v := x17) (lv' := [(5, .int x17), (0, .ref (aG G 42)), (1, .int v1), (2, .int v2), (3, .int v3), (4, .int v4)]) hx hb dX11_shut_144 hl (k := 5) rfl (by rw [ex17]; rfl) (by decide) rfl (fun ls hl => ?_)
        refine lv_goto (tgt := 95) hx hb dX11_shut_147 (by decide) ?_
        exact hk95 _ _ _ _ _ _ _ _ _ hH (lv_sub hl [1, 2, 3, 4, 5, 0] rfl) hf
theorem b_Mo_shut_42_95 {l : Launch} {G : GT} {N : Nat} {p : Program} {e : Env} {s : State} {m : MethodId} {args : Array Value} {below : List Frame} {meth : Method} {c : Code} (X : Cx G p s m args meth c cX11_shut 8 RX11 (some .int)) {r : Int32} {υ : Hp} {k31 : Hp → Int32 → Int32 → Int32 → Int32 → OR} (hk31 : ∀ (τ : Hp) (v1 v2 v3 v4 : Int32) (H : Heap) (locs : List Loc) (ls : Array Slot), Hs G τ s H locs → lv_has ls 8 [(0, .ref (aG G 42)), (1, .int v1), (2, .int v2), (3, .int v3), (4, .int v4)] → k31 τ v1 v2 v3 v4 = some (r, υ) → WI l G (rmG 2 48) p e s m args below meth c r υ H locs (F0 m 31 ls [])) : ∀ (n : Nat) (τ : Hp) (v1 v2 v3 v4 v5 : Int32) (H : Heap) (locs : List Loc) (ls : Array Slot), Hs G τ s H locs → lv_has ls 8 [(0, .ref (aG G 42)), (1, .int v1), (2, .int v2), (3, .int v3), (4, .int v4), (5, .int v5)] → f_Mo_shut_L95 N 42 k31 n τ v1 v2 v3 v4 v5 = some (r, υ) → WI l G (rmG 2 48) p e s m args below meth c r υ H locs (F0 m 95 ls []) := by
  intro n
  induction n with
  | zero => intro τ v1 v2 v3 v4 v5 H locs ls hH hl hf; exact nomatch (show (none : OR) = some (r, υ) from hf)
  | succ n ih => intro τ v1 v2 v3 v4 v5 H locs ls hH hl hf; exact b_Mo_shut_42_95b (N := N) X hk31 ih hH hl hf
set_option maxHeartbeats 4000000 in
set_option maxRecDepth 100000 in
theorem b_Mo_shut_42_186b {l : Launch} {G : GT} {N : Nat} {p : Program} {e : Env} {s : State} {m : MethodId} {args : Array Value} {below : List Frame} {meth : Method} {c : Code} (X : Cx G p s m args meth c cX11_shut 8 RX11 (some .int)) {r : Int32} {υ : Hp} {k168 : Hp → Int32 → Int32 → Int32 → Int32 → OR} (hk168 : ∀ (τ : Hp) (v1 v2 v4 v5 : Int32) (H : Heap) (locs : List Loc) (ls : Array Slot), Hs G τ s H locs → lv_has ls 8 [(0, .ref (aG G 42)), (1, .int v1), (2, .int v2), (4, .int v4), (5, .int v5)] → k168 τ v1 v2 v4 v5 = some (r, υ) → WI l G (rmG 2 48) p e s m args below meth c r υ H locs (F0 m 168 ls [])) {k186 : Hp → Int32 → Int32 → Int32 → Int32 → Int32 → Int32 → OR} (hk186 : ∀ (τ : Hp) (v1 v2 v4 v5 v6 v7 : Int32) (H : Heap) (locs : List Loc) (ls : Array Slot), Hs G τ s H locs → lv_has ls 8 [(0, .ref (aG G 42)), (1, .int v1), (2, .int v2), (4, .int v4), (5, .int v5), (6, .int v6), (7, .int v7)] → k186 τ v1 v2 v4 v5 v6 v7 = some (r, υ) → WI l G (rmG 2 48) p e s m args below meth c r υ H locs (F0 m 186 ls [])) {τ : Hp} {v1 v2 v4 v5 v6 v7 : Int32} {H : Heap} {locs : List Loc} {ls : Array Slot} (hH : Hs G τ s H locs) (hl : lv_has ls 8 [(0, .ref (aG G 42)), (1, .int v1), (2, .int v2), (4, .int v4), (5, .int v5), (6, .int v6), (7, .int v7)]) (hf : f_Mo_shut_L186b N 42 k168 k186 τ v1 v2 v4 v5 v6 v7 = some (r, υ)) : WI l G (rmG 2 48) p e s m args below meth c r υ H locs (F0 m 186 ls []) := by
  have hx := X.hx
  have hb := X.hb
  unfold f_Mo_shut_L186b at hf
  refine lv_iload hx hb dX11_shut_186 (lv_at hl 6 rfl) ?_
  refine lv_iload_n hx hb dX11_shut_188 rfl (lv_at hl 2 rfl) ?_
  refine lv_icmp_ge (tgt := 236) hx hb dX11_shut_189 (by decide) (fun c1 => ?_) (fun c1 => ?_)
  · have hf := e_t c1 hf
    refine lv_iload hx hb dX11_shut_236 (lv_at hl 3 rfl) ?_
    refine lv_iconst (v := (-1)) hx hb dX11_shut_238 (by decide) ?_
    refine lv_icmp_eq (tgt := 249) hx hb dX11_shut_239 (by decide) (fun c2 => ?_) (fun c2 => ?_)
    · have hf := e_t c2 hf
      refine lv_aload_n hx hb dX11_shut_249 rfl (lv_at hl 0 rfl) ?_
      obtain ⟨r3, τ4, hc5, hf⟩ := e_b hf
      refine c_Vi X hH (k := 42) (n := 0) (As := []) (rest := []) (c_Mo_spreads_42 l G (N := N) hc5) (by decide) rfl rfl tw_718 tw_716 tw_717 tw_786 tw_13 (by decide +kernel) ⟨by decide, by decide⟩ rfl hl.1 rfl (Nat.le_of_ble_eq_true rfl) ⟨Nat.zero_le _, Nat.zero_le _⟩ dX11_shut_250 (fun H locs hH => ?_)
      refine lv_iload_n hx hb dX11_shut_253 rfl (lv_at hl 1 rfl) ?_
      refine lv_icmp_le (tgt := 260) hx hb dX11_shut_254 (by decide) (fun c6 => ?_) (fun c6 => ?_)
      · have hf := e_t c6 hf
        refine lv_iload hx hb dX11_shut_260 (lv_at hl 5 rfl) ?_
        refine lv_istore (lv' := [(4, .int v6), (0, .ref (aG G 42)), (1, .int v1), (2, .int v2), (5, .int v5), (6, .int v6), (7, .int v7)]) hx hb dX11_shut_262 hl (by decide) rfl (fun ls hl => ?_)
        refine lv_aload_n hx hb dX11_shut_264 rfl (lv_at hl 1 rfl) ?_
        refine lv_iload hx hb dX11_shut_265 (lv_at hl 4 rfl) ?_
        obtain ⟨τ7, eτ7, hf⟩ := e_l hf
        refine g_put X hH (fp_42_32 G) tw_558 rfl rfl dX11_shut_267 (fun H locs hH => ?_)
        have hH : Hs G τ7 s H locs := by rw [eτ7]; exact hH
        obtain ⟨x8, ex8, hf⟩ := e_l hf
        refine lv_iinc (v := x8) (lv' := [(5, .int x8), (4, .int v6), (0, .ref (aG G 42)), (1, .int v1), (2, .int v2), (6, .int v6), (7, .int v7)]) hx hb dX11_shut_270 hl (k := 4) rfl (by rw [ex8]; rfl) (by decide) rfl (fun ls hl => ?_)
        refine lv_goto (tgt := 168) hx hb dX11_shut_273 (by decide) ?_
        exact hk168 _ _ _ _ _ _ _ _ hH (lv_sub hl [2, 3, 4, 1, 0] rfl) hf
      · have hf := e_f c6 hf
        refine lv_goto (tgt := 270) hx hb dX11_shut_257 (by decide) ?_
        obtain ⟨x9, ex9, hf⟩ := e_l hf
        refine lv_iinc (v := x9) (lv' := [(5, .int x9), (0, .ref (aG G 42)), (1, .int v1), (2, .int v2), (4, .int v4), (6, .int v6), (7, .int v7)]) hx hb dX11_shut_270 hl (k := 4) rfl (by rw [ex9]; rfl) (by decide) rfl (fun ls hl => ?_)
        refine lv_goto (tgt := 168) hx hb dX11_shut_273 (by decide) ?_
        exact hk168 _ _ _ _ _ _ _ _ hH (lv_sub hl [1, 2, 3, 4, 0] rfl) hf
    · have hf := e_f c2 hf
      refine lv_iload hx hb dX11_shut_242 (lv_at hl 5 rfl) ?_
      refine lv_iload hx hb dX11_shut_244 (lv_at hl 3 rfl) ?_
      refine lv_icmp_ge (tgt := 270) hx hb dX11_shut_246 (by decide) (fun c10 => ?_) (fun c10 => ?_)
      · have hf := e_t c10 hf
        obtain ⟨x11, ex11, hf⟩ := e_l hf
        refine lv_iinc (v := x11) (lv' := [(5, .int x11), (0, .ref (aG G 42)), (1, .int v1), (2, .int v2), (4, .int v4), (6, .int v6), (7, .int v7)]) hx hb dX11_shut_270 hl (k := 4) rfl (by rw [ex11]; rfl) (by decide) rfl (fun ls hl => ?_)
        refine lv_goto (tgt := 168) hx hb dX11_shut_273 (by decide) ?_
        exact hk168 _ _ _ _ _ _ _ _ hH (lv_sub hl [1, 2, 3, 4, 0] rfl) hf
      · have hf := e_f c10 hf
        refine lv_aload_n hx hb dX11_shut_249 rfl (lv_at hl 0 rfl) ?_
        obtain ⟨r12, τ13, hc14, hf⟩ := e_b hf
        refine c_Vi X hH (k := 42) (n := 0) (As := []) (rest := []) (c_Mo_spreads_42 l G (N := N) hc14) (by decide) rfl rfl tw_718 tw_716 tw_717 tw_786 tw_13 (by decide +kernel) ⟨by decide, by decide⟩ rfl hl.1 rfl (Nat.le_of_ble_eq_true rfl) ⟨Nat.zero_le _, Nat.zero_le _⟩ dX11_shut_250 (fun H locs hH => ?_)
        refine lv_iload_n hx hb dX11_shut_253 rfl (lv_at hl 1 rfl) ?_
        refine lv_icmp_le (tgt := 260) hx hb dX11_shut_254 (by decide) (fun c15 => ?_) (fun c15 => ?_)
        · have hf := e_t c15 hf
          refine lv_iload hx hb dX11_shut_260 (lv_at hl 5 rfl) ?_
          refine lv_istore (lv' := [(4, .int v6), (0, .ref (aG G 42)), (1, .int v1), (2, .int v2), (5, .int v5), (6, .int v6), (7, .int v7)]) hx hb dX11_shut_262 hl (by decide) rfl (fun ls hl => ?_)
          refine lv_aload_n hx hb dX11_shut_264 rfl (lv_at hl 1 rfl) ?_
          refine lv_iload hx hb dX11_shut_265 (lv_at hl 4 rfl) ?_
          obtain ⟨τ16, eτ16, hf⟩ := e_l hf
          refine g_put X hH (fp_42_32 G) tw_558 rfl rfl dX11_shut_267 (fun H locs hH => ?_)
          have hH : Hs G τ16 s H locs := by rw [eτ16]; exact hH
          obtain ⟨x17, ex17, hf⟩ := e_l hf
          refine lv_iinc (v := x17) (lv' := [(5, .int x17), (4, .int v6), (0, .ref (aG G 42)), (1, .int v1), (2, .int v2), (6, .int v6), (7, .int v7)]) hx hb dX11_shut_270 hl (k := 4) rfl (by rw [ex17]; rfl) (by decide) rfl (fun ls hl => ?_)
          refine lv_goto (tgt := 168) hx hb dX11_shut_273 (by decide) ?_
          exact hk168 _ _ _ _ _ _ _ _ hH (lv_sub hl [2, 3, 4, 1, 0] rfl) hf
        · have hf := e_f c15 hf
          refine lv_goto (tgt := 270) hx hb dX11_shut_257 (by decide) ?_
          obtain ⟨x18, ex18, hf⟩ := e_l hf
          refine lv_iinc (v := x18) (lv' := [(5, .int x18), (0, .ref (aG G 42)), (1, .int v1), (2, .int v2), (4, .int v4), (6, .int v6), (7, .int v7)]) hx hb dX11_shut_270 hl (k := 4) rfl (by rw [ex18]; rfl) (by decide) rfl (fun ls hl => ?_)
          refine lv_goto (tgt := 168) hx hb dX11_shut_273 (by decide) ?_
          exact hk168 _ _ _ _ _ _ _ _ hH (lv_sub hl [1, 2, 3, 4, 0] rfl) hf
  · have hf := e_f c1 hf
    refine lv_iload hx hb dX11_shut_192 (lv_at hl 4 rfl) ?_
    refine lv_iload hx hb dX11_shut_194 (lv_at hl 6 rfl) ?_
    refine lv_ishr hx hb dX11_shut_196 ?_
    refine lv_iconst (v := 1) hx hb dX11_shut_197 (by decide) ?_
    refine lv_iand hx hb dX11_shut_198 ?_
    refine lv_if_ne (tgt := 205) hx hb dX11_shut_199 (by decide) (fun c19 => ?_) (fun c19 => ?_)
    · have hf := e_f c19 hf
      refine lv_aload_n hx hb dX11_shut_205 rfl (lv_at hl 0 rfl) ?_
      refine g_get X hH (fa_42_27 G) tw_553 dX11_shut_206 ?_
      refine lv_aload_n hx hb dX11_shut_209 rfl (lv_at hl 0 rfl) ?_
      refine g_get X hH (fa_42_29 G) tw_555 dX11_shut_210 ?_
      refine lv_iload hx hb dX11_shut_213 (lv_at hl 6 rfl) ?_
      obtain ⟨g20, hf⟩ := e_g hf
      refine a_ld X hH (aa_59 G) g20 dX11_shut_215 ?_
      refine lv_iconst (v := 1) hx hb dX11_shut_216 (by decide) ?_
      obtain ⟨g21, hf⟩ := e_g hf
      obtain ⟨τ22, eτ22, hf⟩ := e_l hf
      refine z_st X hH (aa_58 G) g21 dX11_shut_217 (fun H locs hH => ?_)
      have hH : Hs G τ22 s H locs := by rw [eτ22]; exact hH
      refine lv_iload hx hb dX11_shut_218 (lv_at hl 5 rfl) ?_
      refine lv_aload_n hx hb dX11_shut_220 rfl (lv_at hl 0 rfl) ?_
      refine g_get X hH (fa_42_30 G) tw_556 dX11_shut_221 ?_
      refine lv_iload hx hb dX11_shut_224 (lv_at hl 6 rfl) ?_
      obtain ⟨g23, hf⟩ := e_g hf
      refine a_ld X hH (aa_60 G) g23 dX11_shut_226 ?_
      refine lv_iadd hx hb dX11_shut_227 ?_
      obtain ⟨x24, ex24, hf⟩ := e_l hf
      refine g_nm ex24 ?_
      refine lv_istore (lv' := [(6, .int x24), (0, .ref (aG G 42)), (1, .int v1), (2, .int v2), (4, .int v4), (5, .int v5), (7, .int v7)]) hx hb dX11_shut_228 hl (by decide) rfl (fun ls hl => ?_)
      obtain ⟨x25, ex25, hf⟩ := e_l hf
      refine lv_iinc (v := x25) (lv' := [(7, .int x25), (6, .int x24), (0, .ref (aG G 42)), (1, .int v1), (2, .int v2), (4, .int v4), (5, .int v5)]) hx hb dX11_shut_230 hl (k := 6) rfl (by rw [ex25]; rfl) (by decide) rfl (fun ls hl => ?_)
      refine lv_goto (tgt := 186) hx hb dX11_shut_233 (by decide) ?_
      exact hk186 _ _ _ _ _ _ _ _ _ _ hH (lv_sub hl [2, 3, 4, 5, 6, 1, 0] rfl) hf
    · have hf := e_t c19 hf
      refine lv_goto (tgt := 230) hx hb dX11_shut_202 (by decide) ?_
      obtain ⟨x26, ex26, hf⟩ := e_l hf
      refine lv_iinc (v := x26) (lv' := [(7, .int x26), (0, .ref (aG G 42)), (1, .int v1), (2, .int v2), (4, .int v4), (5, .int v5), (6, .int v6)]) hx hb dX11_shut_230 hl (k := 6) rfl (by rw [ex26]; rfl) (by decide) rfl (fun ls hl => ?_)
      refine lv_goto (tgt := 186) hx hb dX11_shut_233 (by decide) ?_
      exact hk186 _ _ _ _ _ _ _ _ _ _ hH (lv_sub hl [1, 2, 3, 4, 5, 6, 0] rfl) hf
theorem b_Mo_shut_42_186 {l : Launch} {G : GT} {N : Nat} {p : Program} {e : Env} {s : State} {m : MethodId} {args : Array Value} {below : List Frame} {meth : Method} {c : Code} (X : Cx G p s m args meth c cX11_shut 8 RX11 (some .int)) {r : Int32} {υ : Hp} {k168 : Hp → Int32 → Int32 → Int32 → Int32 → OR} (hk168 : ∀ (τ : Hp) (v1 v2 v4 v5 : Int32) (H : Heap) (locs : List Loc) (ls : Array Slot), Hs G τ s H locs → lv_has ls 8 [(0, .ref (aG G 42)), (1, .int v1), (2, .int v2), (4, .int v4), (5, .int v5)] → k168 τ v1 v2 v4 v5 = some (r, υ) → WI l G (rmG 2 48) p e s m args below meth c r υ H locs (F0 m 168 ls [])) : ∀ (n : Nat) (τ : Hp) (v1 v2 v4 v5 v6 v7 : Int32) (H : Heap) (locs : List Loc) (ls : Array Slot), Hs G τ s H locs → lv_has ls 8 [(0, .ref (aG G 42)), (1, .int v1), (2, .int v2), (4, .int v4), (5, .int v5), (6, .int v6), (7, .int v7)] → f_Mo_shut_L186 N 42 k168 n τ v1 v2 v4 v5 v6 v7 = some (r, υ) → WI l G (rmG 2 48) p e s m args below meth c r υ H locs (F0 m 186 ls []) := by
  intro n
  induction n with
  | zero => intro τ v1 v2 v4 v5 v6 v7 H locs ls hH hl hf; exact nomatch (show (none : OR) = some (r, υ) from hf)
  | succ n ih => intro τ v1 v2 v4 v5 v6 v7 H locs ls hH hl hf; exact b_Mo_shut_42_186b (N := N) X hk168 ih hH hl hf
set_option maxHeartbeats 4000000 in
set_option maxRecDepth 100000 in
theorem b_Mo_shut_42_292b {l : Launch} {G : GT} {N : Nat} {p : Program} {e : Env} {s : State} {m : MethodId} {args : Array Value} {below : List Frame} {meth : Method} {c : Code} (X : Cx G p s m args meth c cX11_shut 8 RX11 (some .int)) {r : Int32} {υ : Hp} {k292 : Hp → Int32 → Int32 → Int32 → OR} (hk292 : ∀ (τ : Hp) (v2 v4 v5 : Int32) (H : Heap) (locs : List Loc) (ls : Array Slot), Hs G τ s H locs → lv_has ls 8 [(0, .ref (aG G 42)), (2, .int v2), (4, .int v4), (5, .int v5)] → k292 τ v2 v4 v5 = some (r, υ) → WI l G (rmG 2 48) p e s m args below meth c r υ H locs (F0 m 292 ls [])) {τ : Hp} {v2 v4 v5 : Int32} {H : Heap} {locs : List Loc} {ls : Array Slot} (hH : Hs G τ s H locs) (hl : lv_has ls 8 [(0, .ref (aG G 42)), (2, .int v2), (4, .int v4), (5, .int v5)]) (hf : f_Mo_shut_L292b N 42 k292 τ v2 v4 v5 = some (r, υ)) : WI l G (rmG 2 48) p e s m args below meth c r υ H locs (F0 m 292 ls []) := by
  have hx := X.hx
  have hb := X.hb
  unfold f_Mo_shut_L292b at hf
  refine lv_iload hx hb dX11_shut_292 (lv_at hl 3 rfl) ?_
  refine lv_iload_n hx hb dX11_shut_294 rfl (lv_at hl 1 rfl) ?_
  refine lv_icmp_ge (tgt := 345) hx hb dX11_shut_295 (by decide) (fun c1 => ?_) (fun c1 => ?_)
  · have hf := e_t c1 hf
    refine lv_iload hx hb dX11_shut_345 (lv_at hl 2 rfl) ?_
    exact r_i X hH hf dX11_shut_347
  · have hf := e_f c1 hf
    refine lv_aload_n hx hb dX11_shut_298 rfl (lv_at hl 0 rfl) ?_
    refine g_get X hH (fa_42_32 G) tw_558 dX11_shut_299 ?_
    refine lv_iload hx hb dX11_shut_302 (lv_at hl 3 rfl) ?_
    refine lv_ishr hx hb dX11_shut_304 ?_
    refine lv_iconst (v := 1) hx hb dX11_shut_305 (by decide) ?_
    refine lv_iand hx hb dX11_shut_306 ?_
    refine lv_if_ne (tgt := 313) hx hb dX11_shut_307 (by decide) (fun c2 => ?_) (fun c2 => ?_)
    · have hf := e_f c2 hf
      refine lv_aload_n hx hb dX11_shut_313 rfl (lv_at hl 0 rfl) ?_
      refine g_get X hH (fa_42_33 G) tw_559 dX11_shut_314 ?_
      refine lv_aload_n hx hb dX11_shut_317 rfl (lv_at hl 0 rfl) ?_
      refine g_get X hH (fa_42_34 G) tw_560 dX11_shut_318 ?_
      refine lv_aload_n hx hb dX11_shut_321 rfl (lv_at hl 0 rfl) ?_
      refine g_get X hH (fa_42_31 G) tw_557 dX11_shut_322 ?_
      refine lv_iload hx hb dX11_shut_325 (lv_at hl 3 rfl) ?_
      obtain ⟨g3, hf⟩ := e_g hf
      refine a_ld X hH (aa_61 G) g3 dX11_shut_327 ?_
      obtain ⟨g4, hf⟩ := e_g hf
      obtain ⟨τ5, eτ5, hf⟩ := e_l hf
      refine a_st X hH (aa_62 G) g4 dX11_shut_328 (fun H locs hH => ?_)
      have hH : Hs G τ5 s H locs := by rw [eτ5]; exact hH
      refine lv_aload_n hx hb dX11_shut_329 rfl (lv_at hl 0 rfl) ?_
      refine lv_dup hx hb dX11_shut_330 rfl ?_
      refine g_get X hH (fa_42_34 G) tw_560 dX11_shut_331 ?_
      refine lv_iconst (v := 1) hx hb dX11_shut_334 (by decide) ?_
      refine lv_iadd hx hb dX11_shut_335 ?_
      obtain ⟨τ6, eτ6, hf⟩ := e_l hf
      refine g_put X hH (fp_42_34 G) tw_560 rfl rfl dX11_shut_336 (fun H locs hH => ?_)
      have hH : Hs G τ6 s H locs := by rw [eτ6]; exact hH
      obtain ⟨x7, ex7, hf⟩ := e_l hf
      refine lv_iinc (v := x7) (lv' := [(5, .int x7), (0, .ref (aG G 42)), (2, .int v2), (4, .int v4)]) hx hb dX11_shut_339 hl (k := 3) rfl (by rw [ex7]; rfl) (by decide) rfl (fun ls hl => ?_)
      refine lv_goto (tgt := 292) hx hb dX11_shut_342 (by decide) ?_
      exact hk292 _ _ _ _ _ _ _ hH (lv_sub hl [1, 2, 3, 0] rfl) hf
    · have hf := e_t c2 hf
      refine lv_goto (tgt := 339) hx hb dX11_shut_310 (by decide) ?_
      obtain ⟨x8, ex8, hf⟩ := e_l hf
      refine lv_iinc (v := x8) (lv' := [(5, .int x8), (0, .ref (aG G 42)), (2, .int v2), (4, .int v4)]) hx hb dX11_shut_339 hl (k := 3) rfl (by rw [ex8]; rfl) (by decide) rfl (fun ls hl => ?_)
      refine lv_goto (tgt := 292) hx hb dX11_shut_342 (by decide) ?_
      exact hk292 _ _ _ _ _ _ _ hH (lv_sub hl [1, 2, 3, 0] rfl) hf
theorem b_Mo_shut_42_292 {l : Launch} {G : GT} {N : Nat} {p : Program} {e : Env} {s : State} {m : MethodId} {args : Array Value} {below : List Frame} {meth : Method} {c : Code} (X : Cx G p s m args meth c cX11_shut 8 RX11 (some .int)) {r : Int32} {υ : Hp} : ∀ (n : Nat) (τ : Hp) (v2 v4 v5 : Int32) (H : Heap) (locs : List Loc) (ls : Array Slot), Hs G τ s H locs → lv_has ls 8 [(0, .ref (aG G 42)), (2, .int v2), (4, .int v4), (5, .int v5)] → f_Mo_shut_L292 N 42 n τ v2 v4 v5 = some (r, υ) → WI l G (rmG 2 48) p e s m args below meth c r υ H locs (F0 m 292 ls []) := by
  intro n
  induction n with
  | zero => intro τ v2 v4 v5 H locs ls hH hl hf; exact nomatch (show (none : OR) = some (r, υ) from hf)
  | succ n ih => intro τ v2 v4 v5 H locs ls hH hl hf; exact b_Mo_shut_42_292b (N := N) X ih hH hl hf
set_option maxHeartbeats 4000000 in
set_option maxRecDepth 100000 in
theorem b_Mo_shut_42_168b {l : Launch} {G : GT} {N : Nat} {p : Program} {e : Env} {s : State} {m : MethodId} {args : Array Value} {below : List Frame} {meth : Method} {c : Code} (X : Cx G p s m args meth c cX11_shut 8 RX11 (some .int)) {r : Int32} {υ : Hp} {k168 : Hp → Int32 → Int32 → Int32 → Int32 → OR} (hk168 : ∀ (τ : Hp) (v1 v2 v4 v5 : Int32) (H : Heap) (locs : List Loc) (ls : Array Slot), Hs G τ s H locs → lv_has ls 8 [(0, .ref (aG G 42)), (1, .int v1), (2, .int v2), (4, .int v4), (5, .int v5)] → k168 τ v1 v2 v4 v5 = some (r, υ) → WI l G (rmG 2 48) p e s m args below meth c r υ H locs (F0 m 168 ls [])) {τ : Hp} {v1 v2 v4 v5 : Int32} {H : Heap} {locs : List Loc} {ls : Array Slot} (hH : Hs G τ s H locs) (hl : lv_has ls 8 [(0, .ref (aG G 42)), (1, .int v1), (2, .int v2), (4, .int v4), (5, .int v5)]) (hf : f_Mo_shut_L168b N 42 k168 τ v1 v2 v4 v5 = some (r, υ)) : WI l G (rmG 2 48) p e s m args below meth c r υ H locs (F0 m 168 ls []) := by
  have hx := X.hx
  have hb := X.hb
  unfold f_Mo_shut_L168b at hf
  refine lv_iload hx hb dX11_shut_168 (lv_at hl 4 rfl) ?_
  refine lv_iconst (v := 1) hx hb dX11_shut_170 (by decide) ?_
  refine lv_iload_n hx hb dX11_shut_171 rfl (lv_at hl 2 rfl) ?_
  refine lv_ishl hx hb dX11_shut_172 ?_
  refine lv_icmp_ge (tgt := 276) hx hb dX11_shut_173 (by decide) (fun c1 => ?_) (fun c1 => ?_)
  · have hf := e_t c1 hf
    refine lv_iload hx hb dX11_shut_276 (lv_at hl 3 rfl) ?_
    refine lv_iconst (v := (-1)) hx hb dX11_shut_278 (by decide) ?_
    refine lv_icmp_ne (tgt := 284) hx hb dX11_shut_279 (by decide) (fun c2 => ?_) (fun c2 => ?_)
    · have hf := e_f c2 hf
      refine lv_aload_n hx hb dX11_shut_284 rfl (lv_at hl 0 rfl) ?_
      refine lv_iconst (v := 0) hx hb dX11_shut_285 (by decide) ?_
      obtain ⟨τ3, eτ3, hf⟩ := e_l hf
      refine g_put X hH (fp_42_34 G) tw_560 rfl rfl dX11_shut_286 (fun H locs hH => ?_)
      have hH : Hs G τ3 s H locs := by rw [eτ3]; exact hH
      refine lv_iconst (v := 0) hx hb dX11_shut_289 (by decide) ?_
      refine lv_istore (lv' := [(5, .int 0), (0, .ref (aG G 42)), (1, .int v1), (2, .int v2), (4, .int v4)]) hx hb dX11_shut_290 hl (by decide) rfl (fun ls hl => ?_)
      exact b_Mo_shut_42_292 (N := N) X _ _ _ _ _ _ _ _ hH (lv_sub hl [1, 3, 4, 0] rfl) hf
    · have hf := e_t c2 hf
      refine lv_iconst (v := (-1)) hx hb dX11_shut_282 (by decide) ?_
      exact r_i X hH hf dX11_shut_283
  · have hf := e_f c1 hf
    refine lv_aload_n hx hb dX11_shut_176 rfl (lv_at hl 0 rfl) ?_
    obtain ⟨r4, τ5, hc6, hf⟩ := e_b hf
    refine c_Vv X hH (k := 42) (n := 0) (As := []) (rest := []) (c_Mo_opens_42 l G (N := N) hc6) (by decide) rfl rfl tw_708 tw_706 tw_707 tw_784 tw_13 (by decide +kernel) ⟨by decide, by decide⟩ rfl hl.1 rfl (Nat.le_of_ble_eq_true rfl) ⟨Nat.zero_le _, Nat.zero_le _⟩ dX11_shut_177 (fun H locs hH => ?_)
    refine lv_iconst (v := 0) hx hb dX11_shut_180 (by decide) ?_
    refine lv_istore (lv' := [(6, .int 0), (0, .ref (aG G 42)), (1, .int v1), (2, .int v2), (4, .int v4), (5, .int v5)]) hx hb dX11_shut_181 hl (by decide) rfl (fun ls hl => ?_)
    refine lv_iconst (v := 0) hx hb dX11_shut_183 (by decide) ?_
    refine lv_istore (lv' := [(7, .int 0), (6, .int 0), (0, .ref (aG G 42)), (1, .int v1), (2, .int v2), (4, .int v4), (5, .int v5)]) hx hb dX11_shut_184 hl (by decide) rfl (fun ls hl => ?_)
    exact b_Mo_shut_42_186 (N := N) X hk168 _ _ _ _ _ _ _ _ _ _ _ hH (lv_sub hl [2, 3, 4, 5, 6, 1, 0] rfl) hf
theorem b_Mo_shut_42_168 {l : Launch} {G : GT} {N : Nat} {p : Program} {e : Env} {s : State} {m : MethodId} {args : Array Value} {below : List Frame} {meth : Method} {c : Code} (X : Cx G p s m args meth c cX11_shut 8 RX11 (some .int)) {r : Int32} {υ : Hp} : ∀ (n : Nat) (τ : Hp) (v1 v2 v4 v5 : Int32) (H : Heap) (locs : List Loc) (ls : Array Slot), Hs G τ s H locs → lv_has ls 8 [(0, .ref (aG G 42)), (1, .int v1), (2, .int v2), (4, .int v4), (5, .int v5)] → f_Mo_shut_L168 N 42 n τ v1 v2 v4 v5 = some (r, υ) → WI l G (rmG 2 48) p e s m args below meth c r υ H locs (F0 m 168 ls []) := by
  intro n
  induction n with
  | zero => intro τ v1 v2 v4 v5 H locs ls hH hl hf; exact nomatch (show (none : OR) = some (r, υ) from hf)
  | succ n ih => intro τ v1 v2 v4 v5 H locs ls hH hl hf; exact b_Mo_shut_42_168b (N := N) X ih hH hl hf
set_option maxHeartbeats 4000000 in
set_option maxRecDepth 100000 in
theorem b_Mo_shut_42_31b {l : Launch} {G : GT} {N : Nat} {p : Program} {e : Env} {s : State} {m : MethodId} {args : Array Value} {below : List Frame} {meth : Method} {c : Code} (X : Cx G p s m args meth c cX11_shut 8 RX11 (some .int)) {r : Int32} {υ : Hp} {k31 : Hp → Int32 → Int32 → Int32 → Int32 → OR} (hk31 : ∀ (τ : Hp) (v1 v2 v3 v4 : Int32) (H : Heap) (locs : List Loc) (ls : Array Slot), Hs G τ s H locs → lv_has ls 8 [(0, .ref (aG G 42)), (1, .int v1), (2, .int v2), (3, .int v3), (4, .int v4)] → k31 τ v1 v2 v3 v4 = some (r, υ) → WI l G (rmG 2 48) p e s m args below meth c r υ H locs (F0 m 31 ls [])) {τ : Hp} {v1 v2 v3 v4 : Int32} {H : Heap} {locs : List Loc} {ls : Array Slot} (hH : Hs G τ s H locs) (hl : lv_has ls 8 [(0, .ref (aG G 42)), (1, .int v1), (2, .int v2), (3, .int v3), (4, .int v4)]) (hf : f_Mo_shut_L31b N 42 k31 τ v1 v2 v3 v4 = some (r, υ)) : WI l G (rmG 2 48) p e s m args below meth c r υ H locs (F0 m 31 ls []) := by
  have hx := X.hx
  have hb := X.hb
  unfold f_Mo_shut_L31b at hf
  refine lv_iload hx hb dX11_shut_31 (lv_at hl 4 rfl) ?_
  refine lv_sipush (v := 256) hx hb dX11_shut_33 (by decide) ?_
  refine lv_icmp_ge (tgt := 162) hx hb dX11_shut_36 (by decide) (fun c1 => ?_) (fun c1 => ?_)
  · have hf := e_t c1 hf
    refine lv_iconst (v := (-1)) hx hb dX11_shut_162 (by decide) ?_
    refine lv_istore (lv' := [(4, .int (-1)), (0, .ref (aG G 42)), (1, .int v1), (2, .int v2), (3, .int v3)]) hx hb dX11_shut_163 hl (by decide) rfl (fun ls hl => ?_)
    refine lv_iconst (v := 0) hx hb dX11_shut_165 (by decide) ?_
    refine lv_istore (lv' := [(5, .int 0), (4, .int (-1)), (0, .ref (aG G 42)), (1, .int v1), (2, .int v2), (3, .int v3)]) hx hb dX11_shut_166 hl (by decide) rfl (fun ls hl => ?_)
    exact b_Mo_shut_42_168 (N := N) X _ _ _ _ _ _ _ _ _ hH (lv_sub hl [2, 3, 4, 1, 0] rfl) hf
  · have hf := e_f c1 hf
    refine lv_aload_n hx hb dX11_shut_39 rfl (lv_at hl 0 rfl) ?_
    refine g_get X hH (fa_42_25 G) tw_551 dX11_shut_40 ?_
    refine lv_iload hx hb dX11_shut_43 (lv_at hl 4 rfl) ?_
    obtain ⟨g2, hf⟩ := e_g hf
    refine z_ld X hH (aa_57 G) g2 dX11_shut_45 ?_
    refine lv_if_ne (tgt := 52) hx hb dX11_shut_46 (by decide) (fun c3 => ?_) (fun c3 => ?_)
    · have hf := e_f c3 hf
      refine lv_aload_n hx hb dX11_shut_52 rfl (lv_at hl 0 rfl) ?_
      refine lv_iload hx hb dX11_shut_53 (lv_at hl 4 rfl) ?_
      obtain ⟨r4, τ5, hc6, hf⟩ := e_b hf
      refine c_Vi X hH (k := 42) (n := 1) (As := [.int _]) (rest := []) (c_Mo_canShut_42 l G (N := N) hc6) (by decide) rfl rfl tw_694 tw_692 tw_693 tw_782 tw_13 (by decide +kernel) ⟨by decide, by decide⟩ rfl hl.1 rfl (Nat.le_of_ble_eq_true rfl) ⟨Nat.zero_le _, Nat.zero_le _⟩ dX11_shut_55 (fun H locs hH => ?_)
      refine lv_if_eq (tgt := 153) hx hb dX11_shut_58 (by decide) (fun c7 => ?_) (fun c7 => ?_)
      · have hf := e_t c7 hf
        obtain ⟨x8, ex8, hf⟩ := e_l hf
        refine lv_iinc (v := x8) (lv' := [(3, .int x8), (0, .ref (aG G 42)), (1, .int v1), (2, .int v2), (4, .int v4)]) hx hb dX11_shut_153 hl (k := 3) rfl (by rw [ex8]; rfl) (by decide) rfl (fun ls hl => ?_)
        obtain ⟨x9, ex9, hf⟩ := e_l hf
        refine lv_iinc (v := x9) (lv' := [(4, .int x9), (3, .int x8), (0, .ref (aG G 42)), (1, .int v1), (2, .int v2)]) hx hb dX11_shut_156 hl (k := 4) rfl (by rw [ex9]; rfl) (by decide) rfl (fun ls hl => ?_)
        refine lv_goto (tgt := 31) hx hb dX11_shut_159 (by decide) ?_
        exact hk31 _ _ _ _ _ _ _ _ hH (lv_sub hl [2, 3, 4, 1, 0] rfl) hf
      · have hf := e_f c7 hf
        refine lv_iload_n hx hb dX11_shut_61 rfl (lv_at hl 2 rfl) ?_
        refine lv_bipush (v := 12) hx hb dX11_shut_62 (by decide) ?_
        refine lv_icmp_ne (tgt := 70) hx hb dX11_shut_64 (by decide) (fun c10 => ?_) (fun c10 => ?_)
        · have hf := e_f c10 hf
          refine lv_aload_n hx hb dX11_shut_70 rfl (lv_at hl 0 rfl) ?_
          refine g_get X hH (fa_42_29 G) tw_555 dX11_shut_71 ?_
          refine lv_iload_n hx hb dX11_shut_74 rfl (lv_at hl 2 rfl) ?_
          refine lv_iload hx hb dX11_shut_75 (lv_at hl 4 rfl) ?_
          obtain ⟨g11, hf⟩ := e_g hf
          obtain ⟨τ12, eτ12, hf⟩ := e_l hf
          refine a_st X hH (aa_59 G) g11 dX11_shut_77 (fun H locs hH => ?_)
          have hH : Hs G τ12 s H locs := by rw [eτ12]; exact hH
          refine lv_aload_n hx hb dX11_shut_78 rfl (lv_at hl 0 rfl) ?_
          refine g_get X hH (fa_42_31 G) tw_557 dX11_shut_79 ?_
          refine lv_iload_n hx hb dX11_shut_82 rfl (lv_at hl 2 rfl) ?_
          refine lv_iload_n hx hb dX11_shut_83 rfl (lv_at hl 3 rfl) ?_
          obtain ⟨g13, hf⟩ := e_g hf
          obtain ⟨τ14, eτ14, hf⟩ := e_l hf
          refine a_st X hH (aa_61 G) g13 dX11_shut_84 (fun H locs hH => ?_)
          have hH : Hs G τ14 s H locs := by rw [eτ14]; exact hH
          refine lv_aload_n hx hb dX11_shut_85 rfl (lv_at hl 0 rfl) ?_
          refine g_get X hH (fa_42_30 G) tw_556 dX11_shut_86 ?_
          refine lv_iload_n hx hb dX11_shut_89 rfl (lv_at hl 2 rfl) ?_
          refine lv_iconst (v := 0) hx hb dX11_shut_90 (by decide) ?_
          obtain ⟨g15, hf⟩ := e_g hf
          obtain ⟨τ16, eτ16, hf⟩ := e_l hf
          refine a_st X hH (aa_60 G) g15 dX11_shut_91 (fun H locs hH => ?_)
          have hH : Hs G τ16 s H locs := by rw [eτ16]; exact hH
          refine lv_iconst (v := 0) hx hb dX11_shut_92 (by decide) ?_
          refine lv_istore (lv' := [(5, .int 0), (0, .ref (aG G 42)), (1, .int v1), (2, .int v2), (3, .int v3), (4, .int v4)]) hx hb dX11_shut_93 hl (by decide) rfl (fun ls hl => ?_)
          exact b_Mo_shut_42_95 (N := N) X hk31 _ _ _ _ _ _ _ _ _ _ hH (lv_sub hl [1, 2, 3, 4, 5, 0] rfl) hf
        · have hf := e_t c10 hf
          refine lv_bipush (v := (-2)) hx hb dX11_shut_67 (by decide) ?_
          exact r_i X hH hf dX11_shut_69
    · have hf := e_t c3 hf
      refine lv_goto (tgt := 156) hx hb dX11_shut_49 (by decide) ?_
      obtain ⟨x17, ex17, hf⟩ := e_l hf
      refine lv_iinc (v := x17) (lv' := [(4, .int x17), (0, .ref (aG G 42)), (1, .int v1), (2, .int v2), (3, .int v3)]) hx hb dX11_shut_156 hl (k := 4) rfl (by rw [ex17]; rfl) (by decide) rfl (fun ls hl => ?_)
      refine lv_goto (tgt := 31) hx hb dX11_shut_159 (by decide) ?_
      exact hk31 _ _ _ _ _ _ _ _ hH (lv_sub hl [1, 2, 3, 4, 0] rfl) hf
theorem b_Mo_shut_42_31 {l : Launch} {G : GT} {N : Nat} {p : Program} {e : Env} {s : State} {m : MethodId} {args : Array Value} {below : List Frame} {meth : Method} {c : Code} (X : Cx G p s m args meth c cX11_shut 8 RX11 (some .int)) {r : Int32} {υ : Hp} : ∀ (n : Nat) (τ : Hp) (v1 v2 v3 v4 : Int32) (H : Heap) (locs : List Loc) (ls : Array Slot), Hs G τ s H locs → lv_has ls 8 [(0, .ref (aG G 42)), (1, .int v1), (2, .int v2), (3, .int v3), (4, .int v4)] → f_Mo_shut_L31 N 42 n τ v1 v2 v3 v4 = some (r, υ) → WI l G (rmG 2 48) p e s m args below meth c r υ H locs (F0 m 31 ls []) := by
  intro n
  induction n with
  | zero => intro τ v1 v2 v3 v4 H locs ls hH hl hf; exact nomatch (show (none : OR) = some (r, υ) from hf)
  | succ n ih => intro τ v1 v2 v3 v4 H locs ls hH hl hf; exact b_Mo_shut_42_31b (N := N) X ih hH hl hf
set_option maxHeartbeats 4000000 in
set_option maxRecDepth 100000 in
theorem b_Mo_shut_42_0 {l : Launch} {G : GT} {N : Nat} {p : Program} {e : Env} {s : State} {m : MethodId} {args : Array Value} {below : List Frame} {meth : Method} {c : Code} (X : Cx G p s m args meth c cX11_shut 8 RX11 (some .int)) {r : Int32} {υ : Hp} {τ : Hp} {v1 : Int32} {H : Heap} {locs : List Loc} {ls : Array Slot} (hH : Hs G τ s H locs) (hl : lv_has ls 8 [(0, .ref (aG G 42)), (1, .int v1)]) (hf : f_Mo_shut N 42 τ v1 = some (r, υ)) : WI l G (rmG 2 48) p e s m args below meth c r υ H locs (F0 m 0 ls []) := by
  have hx := X.hx
  have hb := X.hb
  unfold f_Mo_shut at hf
  refine lv_aload_n hx hb dX11_shut_0 rfl (lv_at hl 0 rfl) ?_
  refine lv_iconst (v := 0) hx hb dX11_shut_1 (by decide) ?_
  obtain ⟨τ1, eτ1, hf⟩ := e_l hf
  refine g_put X hH (fp_42_0 G) tw_526 rfl rfl dX11_shut_2 (fun H locs hH => ?_)
  have hH : Hs G τ1 s H locs := by rw [eτ1]; exact hH
  refine lv_iload_n hx hb dX11_shut_5 rfl (lv_at hl 1 rfl) ?_
  refine lv_if_lt (tgt := 22) hx hb dX11_shut_6 (by decide) (fun c2 => ?_) (fun c2 => ?_)
  · have hf := e_t c2 hf
    refine lv_iconst (v := (-1)) hx hb dX11_shut_22 (by decide) ?_
    exact r_i X hH hf dX11_shut_23
  · have hf := e_f c2 hf
    refine lv_iload_n hx hb dX11_shut_9 rfl (lv_at hl 1 rfl) ?_
    refine lv_bipush (v := 8) hx hb dX11_shut_10 (by decide) ?_
    refine lv_icmp_gt (tgt := 22) hx hb dX11_shut_12 (by decide) (fun c3 => ?_) (fun c3 => ?_)
    · have hf := e_t c3 hf
      refine lv_iconst (v := (-1)) hx hb dX11_shut_22 (by decide) ?_
      exact r_i X hH hf dX11_shut_23
    · have hf := e_f c3 hf
      refine lv_aload_n hx hb dX11_shut_15 rfl (lv_at hl 0 rfl) ?_
      refine g_get X hH (fa_42_19 G) tw_545 dX11_shut_16 ?_
      refine lv_if_ne (tgt := 24) hx hb dX11_shut_19 (by decide) (fun c4 => ?_) (fun c4 => ?_)
      · have hf := e_f c4 hf
        refine lv_iconst (v := 0) hx hb dX11_shut_24 (by decide) ?_
        refine lv_istore_n (lv' := [(2, .int 0), (0, .ref (aG G 42)), (1, .int v1)]) hx hb dX11_shut_25 rfl hl (by decide) rfl (fun ls hl => ?_)
        refine lv_iconst (v := 0) hx hb dX11_shut_26 (by decide) ?_
        refine lv_istore_n (lv' := [(3, .int 0), (2, .int 0), (0, .ref (aG G 42)), (1, .int v1)]) hx hb dX11_shut_27 rfl hl (by decide) rfl (fun ls hl => ?_)
        refine lv_iconst (v := 0) hx hb dX11_shut_28 (by decide) ?_
        refine lv_istore (lv' := [(4, .int 0), (3, .int 0), (2, .int 0), (0, .ref (aG G 42)), (1, .int v1)]) hx hb dX11_shut_29 hl (by decide) rfl (fun ls hl => ?_)
        exact b_Mo_shut_42_31 (N := N) X _ _ _ _ _ _ _ _ _ hH (lv_sub hl [3, 4, 2, 1, 0] rfl) hf
      · have hf := e_t c4 hf
        refine lv_iconst (v := (-1)) hx hb dX11_shut_22 (by decide) ?_
        exact r_i X hH hf dX11_shut_23
theorem c_Mo_shut_42 (l : Launch) (G : GT) {N : Nat} {τ υ : Hp} {v1 : Int32} {r : Int32} (hf : f_Mo_shut N 42 τ v1 = some (r, υ)) : MI l G yX11_shut cX11_shut 8 (some .int) 2 48 [.ref (aG G 42), .int v1] τ r υ := mk_I (by decide) (Nat.le_of_ble_eq_true rfl) (fun p e s m args below meth c X hH ls hl => b_Mo_shut_42_0 (N := N) X hH (lv_sub hl [0, 1] rfl) hf)
