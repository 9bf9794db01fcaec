-- Mo_comes_42 Mo_mixes_42 Mo_dues_42 Mo_plan_42 WP_room_0 Mo_room_42 Pl_isBy_10 Pl_isNeedBy_10 Pl_waysBy_10 Pl_weightBy_10 Pl_isMustBy_10_3
set_option maxHeartbeats 4000000 in
set_option maxRecDepth 100000 in
theorem b_Mo_comes_42_46b {l : Launch} {G : GT} {N : Nat} {p : Program} {e : Env} {s : State} {m : MethodId} {args : Array Value} {below : List Frame} {meth : Method} {c : Code} (X : Cx G p s m args meth c cX11_comes 3 RX11 none) {r : Int32} {υ : Hp} {k46 : Hp → Int32 → OR} (hk46 : ∀ (τ : Hp) (v2 : Int32) (H : Heap) (locs : List Loc) (ls : Array Slot), Hs G τ s H locs → lv_has ls 3 [(0, .ref (aG G 42)), (2, .int v2)] → k46 τ v2 = some (r, υ) → WV l G (rmG 0 0) p e s m args below meth c υ H locs (F0 m 46 ls [])) {τ : Hp} {v2 : Int32} {H : Heap} {locs : List Loc} {ls : Array Slot} (hH : Hs G τ s H locs) (hl : lv_has ls 3 [(0, .ref (aG G 42)), (2, .int v2)]) (hf : f_Mo_comes_L46b N 42 k46 τ v2 = some (r, υ)) : WV l G (rmG 0 0) p e s m args below meth c υ H locs (F0 m 46 ls []) := by
  have hx := X.hx
  have hb := X.hb
  unfold f_Mo_comes_L46b at hf
  refine lv_iload_n hx hb dX11_comes_46 rfl (lv_at hl 1 rfl) ?_
  refine lv_sipush (v := 256) hx hb dX11_comes_47 (by decide) ?_
  refine lv_icmp_ge (tgt := 95) hx hb dX11_comes_50 (by decide) (fun c1 => ?_) (fun c1 => ?_)
  · have hf := e_t c1 hf
    exact r_v X hH hf dX11_comes_95
  · have hf := e_f c1 hf
    refine lv_aload_n hx hb dX11_comes_53 rfl (lv_at hl 0 rfl) ?_
    refine g_get X hH (fa_42_17 G) tw_543 dX11_comes_54 ?_
    refine lv_iload_n hx hb dX11_comes_57 rfl (lv_at hl 1 rfl) ?_
    refine lv_aload_n hx hb dX11_comes_58 rfl (lv_at hl 0 rfl) ?_
    refine g_get X hH (fa_42_15 G) tw_541 dX11_comes_59 ?_
    refine lv_iload_n hx hb dX11_comes_62 rfl (lv_at hl 1 rfl) ?_
    obtain ⟨g2, hf⟩ := e_g hf
    refine z_ld X hH (aa_50 G) g2 dX11_comes_63 ?_
    obtain ⟨g3, hf⟩ := e_g hf
    obtain ⟨τ4, eτ4, hf⟩ := e_l hf
    refine z_st X hH (aa_52 G) g3 dX11_comes_64 (fun H locs hH => ?_)
    have hH : Hs G τ4 s H locs := by rw [eτ4]; exact hH
    refine lv_aload_n hx hb dX11_comes_65 rfl (lv_at hl 0 rfl) ?_
    refine g_get X hH (fa_42_18 G) tw_544 dX11_comes_66 ?_
    refine lv_iload_n hx hb dX11_comes_69 rfl (lv_at hl 1 rfl) ?_
    refine lv_aload_n hx hb dX11_comes_70 rfl (lv_at hl 0 rfl) ?_
    refine g_get X hH (fa_42_16 G) tw_542 dX11_comes_71 ?_
    refine lv_iload_n hx hb dX11_comes_74 rfl (lv_at hl 1 rfl) ?_
    obtain ⟨g5, hf⟩ := e_g hf
    refine a_ld X hH (aa_51 G) g5 dX11_comes_75 ?_
    obtain ⟨g6, hf⟩ := e_g hf
    obtain ⟨τ7, eτ7, hf⟩ := e_l hf
    refine a_st X hH (aa_53 G) g6 dX11_comes_76 (fun H locs hH => ?_)
    have hH : Hs G τ7 s H locs := by rw [eτ7]; exact hH
    refine lv_aload_n hx hb dX11_comes_77 rfl (lv_at hl 0 rfl) ?_
    refine g_get X hH (fa_42_25 G) tw_551 dX11_comes_78 ?_
    refine lv_iload_n hx hb dX11_comes_81 rfl (lv_at hl 1 rfl) ?_
    refine lv_aload_n hx hb dX11_comes_82 rfl (lv_at hl 0 rfl) ?_
    refine g_get X hH (fa_42_24 G) tw_550 dX11_comes_83 ?_
    refine lv_iload_n hx hb dX11_comes_86 rfl (lv_at hl 1 rfl) ?_
    obtain ⟨g8, hf⟩ := e_g hf
    refine z_ld X hH (aa_56 G) g8 dX11_comes_87 ?_
    obtain ⟨g9, hf⟩ := e_g hf
    obtain ⟨τ10, eτ10, hf⟩ := e_l hf
    refine z_st X hH (aa_57 G) g9 dX11_comes_88 (fun H locs hH => ?_)
    have hH : Hs G τ10 s H locs := by rw [eτ10]; exact hH
    obtain ⟨x11, ex11, hf⟩ := e_l hf
    refine lv_iinc (v := x11) (lv' := [(2, .int x11), (0, .ref (aG G 42))]) hx hb dX11_comes_89 hl (k := 1) rfl (by rw [ex11]; rfl) (by decide) rfl (fun ls hl => ?_)
    refine lv_goto (tgt := 46) hx hb dX11_comes_92 (by decide) ?_
    exact hk46 _ _ _ _ _ hH (lv_sub hl [1, 0] rfl) hf
theorem b_Mo_comes_42_46 {l : Launch} {G : GT} {N : Nat} {p : Program} {e : Env} {s : State} {m : MethodId} {args : Array Value} {below : List Frame} {meth : Method} {c : Code} (X : Cx G p s m args meth c cX11_comes 3 RX11 none) {r : Int32} {υ : Hp} : ∀ (n : Nat) (τ : Hp) (v2 : Int32) (H : Heap) (locs : List Loc) (ls : Array Slot), Hs G τ s H locs → lv_has ls 3 [(0, .ref (aG G 42)), (2, .int v2)] → f_Mo_comes_L46 N 42 n τ v2 = some (r, υ) → WV l G (rmG 0 0) p e s m args below meth c υ H locs (F0 m 46 ls []) := by
  intro n
  induction n with
  | zero => intro τ v2 H locs ls hH hl hf; exact nomatch (show (none : OR) = some (r, υ) from hf)
  | succ n ih => intro τ v2 H locs ls hH hl hf; exact b_Mo_comes_42_46b (N := N) X ih hH hl hf
set_option maxHeartbeats 4000000 in
set_option maxRecDepth 100000 in
theorem b_Mo_comes_42_20b {l : Launch} {G : GT} {N : Nat} {p : Program} {e : Env} {s : State} {m : MethodId} {args : Array Value} {below : List Frame} {meth : Method} {c : Code} (X : Cx G p s m args meth c cX11_comes 3 RX11 none) {r : Int32} {υ : Hp} {k20 : Hp → Int32 → OR} (hk20 : ∀ (τ : Hp) (v2 : Int32) (H : Heap) (locs : List Loc) (ls : Array Slot), Hs G τ s H locs → lv_has ls 3 [(0, .ref (aG G 42)), (2, .int v2)] → k20 τ v2 = some (r, υ) → WV l G (rmG 0 0) p e s m args below meth c υ H locs (F0 m 20 ls [])) {τ : Hp} {v2 : Int32} {H : Heap} {locs : List Loc} {ls : Array Slot} (hH : Hs G τ s H locs) (hl : lv_has ls 3 [(0, .ref (aG G 42)), (2, .int v2)]) (hf : f_Mo_comes_L20b N 42 k20 τ v2 = some (r, υ)) : WV l G (rmG 0 0) p e s m args below meth c υ H locs (F0 m 20 ls []) := by
  have hx := X.hx
  have hb := X.hb
  unfold f_Mo_comes_L20b at hf
  refine lv_iload_n hx hb dX11_comes_20 rfl (lv_at hl 1 rfl) ?_
  refine lv_bipush (v := 8) hx hb dX11_comes_21 (by decide) ?_
  refine lv_icmp_ge (tgt := 44) hx hb dX11_comes_23 (by decide) (fun c1 => ?_) (fun c1 => ?_)
  · have hf := e_t c1 hf
    refine lv_iconst (v := 0) hx hb dX11_comes_44 (by decide) ?_
    refine lv_istore_n (lv' := [(2, .int 0), (0, .ref (aG G 42))]) hx hb dX11_comes_45 rfl hl (by decide) rfl (fun ls hl => ?_)
    exact b_Mo_comes_42_46 (N := N) X _ _ _ _ _ _ hH (lv_sub hl [1, 0] rfl) hf
  · have hf := e_f c1 hf
    refine lv_aload_n hx hb dX11_comes_26 rfl (lv_at hl 0 rfl) ?_
    refine g_get X hH (fa_42_3 G) tw_529 dX11_comes_27 ?_
    refine lv_iload_n hx hb dX11_comes_30 rfl (lv_at hl 1 rfl) ?_
    refine lv_aload_n hx hb dX11_comes_31 rfl (lv_at hl 0 rfl) ?_
    refine g_get X hH (fa_42_22 G) tw_548 dX11_comes_32 ?_
    refine lv_iload_n hx hb dX11_comes_35 rfl (lv_at hl 1 rfl) ?_
    obtain ⟨g2, hf⟩ := e_g hf
    refine a_ld X hH (aa_54 G) g2 dX11_comes_36 ?_
    obtain ⟨g3, hf⟩ := e_g hf
    obtain ⟨τ4, eτ4, hf⟩ := e_l hf
    refine a_st X hH (aa_44 G) g3 dX11_comes_37 (fun H locs hH => ?_)
    have hH : Hs G τ4 s H locs := by rw [eτ4]; exact hH
    obtain ⟨x5, ex5, hf⟩ := e_l hf
    refine lv_iinc (v := x5) (lv' := [(2, .int x5), (0, .ref (aG G 42))]) hx hb dX11_comes_38 hl (k := 1) rfl (by rw [ex5]; rfl) (by decide) rfl (fun ls hl => ?_)
    refine lv_goto (tgt := 20) hx hb dX11_comes_41 (by decide) ?_
    exact hk20 _ _ _ _ _ hH (lv_sub hl [1, 0] rfl) hf
theorem b_Mo_comes_42_20 {l : Launch} {G : GT} {N : Nat} {p : Program} {e : Env} {s : State} {m : MethodId} {args : Array Value} {below : List Frame} {meth : Method} {c : Code} (X : Cx G p s m args meth c cX11_comes 3 RX11 none) {r : Int32} {υ : Hp} : ∀ (n : Nat) (τ : Hp) (v2 : Int32) (H : Heap) (locs : List Loc) (ls : Array Slot), Hs G τ s H locs → lv_has ls 3 [(0, .ref (aG G 42)), (2, .int v2)] → f_Mo_comes_L20 N 42 n τ v2 = some (r, υ) → WV l G (rmG 0 0) p e s m args below meth c υ H locs (F0 m 20 ls []) := by
  intro n
  induction n with
  | zero => intro τ v2 H locs ls hH hl hf; exact nomatch (show (none : OR) = some (r, υ) from hf)
  | succ n ih => intro τ v2 H locs ls hH hl hf; exact b_Mo_comes_42_20b (N := N) X ih hH hl hf
set_option maxHeartbeats 4000000 in
set_option maxRecDepth 100000 in
theorem b_Mo_comes_42_0 {l : Launch} {G : GT} {N : Nat} {p : Program} {e : Env} {s : State} {m : MethodId} {args : Array Value} {below : List Frame} {meth : Method} {c : Code} (X : Cx G p s m args meth c cX11_comes 3 RX11 none) {r : Int32} {υ : Hp} {τ : Hp} {v1 : Int32} {H : Heap} {locs : List Loc} {ls : Array Slot} (hH : Hs G τ s H locs) (hl : lv_has ls 3 [(0, .ref (aG G 42)), (1, .int v1)]) (hf : f_Mo_comes N 42 τ v1 = some (r, υ)) : WV l G (rmG 0 0) p e s m args below meth c υ H locs (F0 m 0 ls []) := by
  have hx := X.hx
  have hb := X.hb
  unfold f_Mo_comes at hf
  refine lv_aload_n hx hb dX11_comes_0 rfl (lv_at hl 0 rfl) ?_
  refine lv_iconst (v := 1) hx hb dX11_comes_1 (by decide) ?_
  obtain ⟨τ1, eτ1, hf⟩ := e_l hf
  refine g_put X hH (fp_42_19 G) tw_545 (isB_n rfl) (isB_f rfl) dX11_comes_2 (fun H locs hH => ?_)
  have hH : Hs G τ1 s H locs := by rw [eτ1]; exact hH
  refine lv_aload_n hx hb dX11_comes_5 rfl (lv_at hl 0 rfl) ?_
  refine lv_iload_n hx hb dX11_comes_6 rfl (lv_at hl 1 rfl) ?_
  obtain ⟨τ2, eτ2, hf⟩ := e_l hf
  refine g_put X hH (fp_42_20 G) tw_546 rfl rfl dX11_comes_7 (fun H locs hH => ?_)
  have hH : Hs G τ2 s H locs := by rw [eτ2]; exact hH
  refine lv_aload_n hx hb dX11_comes_10 rfl (lv_at hl 0 rfl) ?_
  refine lv_aload_n hx hb dX11_comes_11 rfl (lv_at hl 0 rfl) ?_
  refine g_get X hH (fa_42_26 G) tw_552 dX11_comes_12 ?_
  obtain ⟨τ3, eτ3, hf⟩ := e_l hf
  refine g_put X hH (fp_42_21 G) tw_547 rfl rfl dX11_comes_15 (fun H locs hH => ?_)
  have hH : Hs G τ3 s H locs := by rw [eτ3]; exact hH
  refine lv_iconst (v := 0) hx hb dX11_comes_18 (by decide) ?_
  refine lv_istore_n (lv' := [(2, .int 0), (0, .ref (aG G 42)), (1, .int v1)]) hx hb dX11_comes_19 rfl hl (by decide) rfl (fun ls hl => ?_)
  exact b_Mo_comes_42_20 (N := N) X _ _ _ _ _ _ hH (lv_sub hl [1, 0] rfl) hf
theorem c_Mo_comes_42 (l : Launch) (G : GT) {N : Nat} {τ υ : Hp} {v1 : Int32} {r : Int32} (hf : f_Mo_comes N 42 τ v1 = some (r, υ)) : MV l G yX11_comes cX11_comes 3 0 0 [.ref (aG G 42), .int v1] τ υ := mk_V (by decide) (Nat.le_of_ble_eq_true rfl) (fun p e s m args below meth c X hH ls hl => b_Mo_comes_42_0 (N := N) X hH (lv_sub hl [0, 1] rfl) hf)
set_option maxHeartbeats 4000000 in
set_option maxRecDepth 100000 in
theorem b_Mo_mixes_42_12b {l : Launch} {G : GT} {N : Nat} {p : Program} {e : Env} {s : State} {m : MethodId} {args : Array Value} {below : List Frame} {meth : Method} {c : Code} (X : Cx G p s m args meth c cX11_mixes 3 RX11 (some .boolean)) {r : Int32} {υ : Hp} {k2 : Hp → Int32 → OR} (hk2 : ∀ (τ : Hp) (v1 : Int32) (H : Heap) (locs : List Loc) (ls : Array Slot), Hs G τ s H locs → lv_has ls 3 [(0, .ref (aG G 42)), (1, .int v1)] → k2 τ v1 = some (r, υ) → WI l G (rmG 0 0) p e s m args below meth c r υ H locs (F0 m 2 ls [])) {k12 : Hp → Int32 → Int32 → OR} (hk12 : ∀ (τ : Hp) (v1 v2 : Int32) (H : Heap) (locs : List Loc) (ls : Array Slot), Hs G τ s H locs → lv_has ls 3 [(0, .ref (aG G 42)), (1, .int v1), (2, .int v2)] → k12 τ v1 v2 = some (r, υ) → WI l G (rmG 0 0) p e s m args below meth c r υ H locs (F0 m 12 ls [])) {τ : Hp} {v1 v2 : Int32} {H : Heap} {locs : List Loc} {ls : Array Slot} (hH : Hs G τ s H locs) (hl : lv_has ls 3 [(0, .ref (aG G 42)), (1, .int v1), (2, .int v2)]) (hf : f_Mo_mixes_L12b N 42 k2 k12 τ v1 v2 = some (r, υ)) : WI l G (rmG 0 0) p e s m args below meth c r υ H locs (F0 m 12 ls []) := by
  have hx := X.hx
  have hb := X.hb
  unfold f_Mo_mixes_L12b at hf
  refine lv_iload_n hx hb dX11_mixes_12 rfl (lv_at hl 2 rfl) ?_
  refine lv_iload_n hx hb dX11_mixes_13 rfl (lv_at hl 1 rfl) ?_
  refine lv_icmp_ge (tgt := 55) hx hb dX11_mixes_14 (by decide) (fun c1 => ?_) (fun c1 => ?_)
  · have hf := e_t c1 hf
    obtain ⟨x2, ex2, hf⟩ := e_l hf
    refine lv_iinc (v := x2) (lv' := [(1, .int x2), (0, .ref (aG G 42)), (2, .int v2)]) hx hb dX11_mixes_55 hl (k := 1) rfl (by rw [ex2]; rfl) (by decide) rfl (fun ls hl => ?_)
    refine lv_goto (tgt := 2) hx hb dX11_mixes_58 (by decide) ?_
    exact hk2 _ _ _ _ _ hH (lv_sub hl [1, 0] rfl) hf
  · have hf := e_f c1 hf
    refine lv_aload_n hx hb dX11_mixes_17 rfl (lv_at hl 0 rfl) ?_
    refine g_get X hH (fa_42_22 G) tw_548 dX11_mixes_18 ?_
    refine lv_iload_n hx hb dX11_mixes_21 rfl (lv_at hl 1 rfl) ?_
    obtain ⟨g3, hf⟩ := e_g hf
    refine a_ld X hH (aa_54 G) g3 dX11_mixes_22 ?_
    refine lv_aload_n hx hb dX11_mixes_23 rfl (lv_at hl 0 rfl) ?_
    refine g_get X hH (fa_42_22 G) tw_548 dX11_mixes_24 ?_
    refine lv_iload_n hx hb dX11_mixes_27 rfl (lv_at hl 2 rfl) ?_
    obtain ⟨g4, hf⟩ := e_g hf
    refine a_ld X hH (aa_54 G) g4 dX11_mixes_28 ?_
    refine lv_icmp_ne (tgt := 49) hx hb dX11_mixes_29 (by decide) (fun c5 => ?_) (fun c5 => ?_)
    · have hf := e_f c5 hf
      obtain ⟨x6, ex6, hf⟩ := e_l hf
      refine lv_iinc (v := x6) (lv' := [(2, .int x6), (0, .ref (aG G 42)), (1, .int v1)]) hx hb dX11_mixes_49 hl (k := 2) rfl (by rw [ex6]; rfl) (by decide) rfl (fun ls hl => ?_)
      refine lv_goto (tgt := 12) hx hb dX11_mixes_52 (by decide) ?_
      exact hk12 _ _ _ _ _ _ hH (lv_sub hl [1, 2, 0] rfl) hf
    · have hf := e_t c5 hf
      refine lv_aload_n hx hb dX11_mixes_32 rfl (lv_at hl 0 rfl) ?_
      refine g_get X hH (fa_42_2 G) tw_528 dX11_mixes_33 ?_
      refine lv_iload_n hx hb dX11_mixes_36 rfl (lv_at hl 1 rfl) ?_
      obtain ⟨g7, hf⟩ := e_g hf
      refine a_ld X hH (aa_43 G) g7 dX11_mixes_37 ?_
      refine lv_aload_n hx hb dX11_mixes_38 rfl (lv_at hl 0 rfl) ?_
      refine g_get X hH (fa_42_2 G) tw_528 dX11_mixes_39 ?_
      refine lv_iload_n hx hb dX11_mixes_42 rfl (lv_at hl 2 rfl) ?_
      obtain ⟨g8, hf⟩ := e_g hf
      refine a_ld X hH (aa_43 G) g8 dX11_mixes_43 ?_
      refine lv_icmp_eq (tgt := 49) hx hb dX11_mixes_44 (by decide) (fun c9 => ?_) (fun c9 => ?_)
      · have hf := e_t c9 hf
        obtain ⟨x10, ex10, hf⟩ := e_l hf
        refine lv_iinc (v := x10) (lv' := [(2, .int x10), (0, .ref (aG G 42)), (1, .int v1)]) hx hb dX11_mixes_49 hl (k := 2) rfl (by rw [ex10]; rfl) (by decide) rfl (fun ls hl => ?_)
        refine lv_goto (tgt := 12) hx hb dX11_mixes_52 (by decide) ?_
        exact hk12 _ _ _ _ _ _ hH (lv_sub hl [1, 2, 0] rfl) hf
      · have hf := e_f c9 hf
        refine lv_iconst (v := 1) hx hb dX11_mixes_47 (by decide) ?_
        exact r_z X hH rfl hf dX11_mixes_48
theorem b_Mo_mixes_42_12 {l : Launch} {G : GT} {N : Nat} {p : Program} {e : Env} {s : State} {m : MethodId} {args : Array Value} {below : List Frame} {meth : Method} {c : Code} (X : Cx G p s m args meth c cX11_mixes 3 RX11 (some .boolean)) {r : Int32} {υ : Hp} {k2 : Hp → Int32 → OR} (hk2 : ∀ (τ : Hp) (v1 : Int32) (H : Heap) (locs : List Loc) (ls : Array Slot), Hs G τ s H locs → lv_has ls 3 [(0, .ref (aG G 42)), (1, .int v1)] → k2 τ v1 = some (r, υ) → WI l G (rmG 0 0) p e s m args below meth c r υ H locs (F0 m 2 ls [])) : ∀ (n : Nat) (τ : Hp) (v1 v2 : Int32) (H : Heap) (locs : List Loc) (ls : Array Slot), Hs G τ s H locs → lv_has ls 3 [(0, .ref (aG G 42)), (1, .int v1), (2, .int v2)] → f_Mo_mixes_L12 N 42 k2 n τ v1 v2 = some (r, υ) → WI l G (rmG 0 0) p e s m args below meth c r υ H locs (F0 m 12 ls []) := by
  intro n
  induction n with
  | zero => intro τ v1 v2 H locs ls hH hl hf; exact nomatch (show (none : OR) = some (r, υ) from hf)
  | succ n ih => intro τ v1 v2 H locs ls hH hl hf; exact b_Mo_mixes_42_12b (N := N) X hk2 ih hH hl hf
set_option maxHeartbeats 4000000 in
set_option maxRecDepth 100000 in
theorem b_Mo_mixes_42_2b {l : Launch} {G : GT} {N : Nat} {p : Program} {e : Env} {s : State} {m : MethodId} {args : Array Value} {below : List Frame} {meth : Method} {c : Code} (X : Cx G p s m args meth c cX11_mixes 3 RX11 (some .boolean)) {r : Int32} {υ : Hp} {k2 : Hp → Int32 → OR} (hk2 : ∀ (τ : Hp) (v1 : Int32) (H : Heap) (locs : List Loc) (ls : Array Slot), Hs G τ s H locs → lv_has ls 3 [(0, .ref (aG G 42)), (1, .int v1)] → k2 τ v1 = some (r, υ) → WI l G (rmG 0 0) p e s m args below meth c r υ H locs (F0 m 2 ls [])) {τ : Hp} {v1 : Int32} {H : Heap} {locs : List Loc} {ls : Array Slot} (hH : Hs G τ s H locs) (hl : lv_has ls 3 [(0, .ref (aG G 42)), (1, .int v1)]) (hf : f_Mo_mixes_L2b N 42 k2 τ v1 = some (r, υ)) : WI l G (rmG 0 0) p e s m args below meth c r υ H locs (F0 m 2 ls []) := by
  have hx := X.hx
  have hb := X.hb
  unfold f_Mo_mixes_L2b at hf
  refine lv_iload_n hx hb dX11_mixes_2 rfl (lv_at hl 1 rfl) ?_
  refine lv_aload_n hx hb dX11_mixes_3 rfl (lv_at hl 0 rfl) ?_
  refine g_get X hH (fa_42_1 G) tw_527 dX11_mixes_4 ?_
  refine lv_icmp_ge (tgt := 61) hx hb dX11_mixes_7 (by decide) (fun c1 => ?_) (fun c1 => ?_)
  · have hf := e_t c1 hf
    refine lv_iconst (v := 0) hx hb dX11_mixes_61 (by decide) ?_
    exact r_z X hH rfl hf dX11_mixes_62
  · have hf := e_f c1 hf
    refine lv_iconst (v := 0) hx hb dX11_mixes_10 (by decide) ?_
    refine lv_istore_n (lv' := [(2, .int 0), (0, .ref (aG G 42)), (1, .int v1)]) hx hb dX11_mixes_11 rfl hl (by decide) rfl (fun ls hl => ?_)
    exact b_Mo_mixes_42_12 (N := N) X hk2 _ _ _ _ _ _ _ hH (lv_sub hl [1, 2, 0] rfl) hf
theorem b_Mo_mixes_42_2 {l : Launch} {G : GT} {N : Nat} {p : Program} {e : Env} {s : State} {m : MethodId} {args : Array Value} {below : List Frame} {meth : Method} {c : Code} (X : Cx G p s m args meth c cX11_mixes 3 RX11 (some .boolean)) {r : Int32} {υ : Hp} : ∀ (n : Nat) (τ : Hp) (v1 : Int32) (H : Heap) (locs : List Loc) (ls : Array Slot), Hs G τ s H locs → lv_has ls 3 [(0, .ref (aG G 42)), (1, .int v1)] → f_Mo_mixes_L2 N 42 n τ v1 = some (r, υ) → WI l G (rmG 0 0) p e s m args below meth c r υ H locs (F0 m 2 ls []) := by
  intro n
  induction n with
  | zero => intro τ v1 H locs ls hH hl hf; exact nomatch (show (none : OR) = some (r, υ) from hf)
  | succ n ih => intro τ v1 H locs ls hH hl hf; exact b_Mo_mixes_42_2b (N := N) X ih hH hl hf
set_option maxHeartbeats 4000000 in
set_option maxRecDepth 100000 in
theorem b_Mo_mixes_42_0 {l : Launch} {G : GT} {N : Nat} {p : Program} {e : Env} {s : State} {m : MethodId} {args : Array Value} {below : List Frame} {meth : Method} {c : Code} (X : Cx G p s m args meth c cX11_mixes 3 RX11 (some .boolean)) {r : Int32} {υ : Hp} {τ : Hp} {H : Heap} {locs : List Loc} {ls : Array Slot} (hH : Hs G τ s H locs) (hl : lv_has ls 3 [(0, .ref (aG G 42))]) (hf : f_Mo_mixes N 42 τ = some (r, υ)) : WI l G (rmG 0 0) p e s m args below meth c r υ H locs (F0 m 0 ls []) := by
  have hx := X.hx
  have hb := X.hb
  unfold f_Mo_mixes at hf
  refine lv_iconst (v := 0) hx hb dX11_mixes_0 (by decide) ?_
  refine lv_istore_n (lv' := [(1, .int 0), (0, .ref (aG G 42))]) hx hb dX11_mixes_1 rfl hl (by decide) rfl (fun ls hl => ?_)
  exact b_Mo_mixes_42_2 (N := N) X _ _ _ _ _ _ hH (lv_sub hl [1, 0] rfl) hf
theorem c_Mo_mixes_42 (l : Launch) (G : GT) {N : Nat} {τ υ : Hp} {r : Int32} (hf : f_Mo_mixes N 42 τ = some (r, υ)) : MI l G yX11_mixes cX11_mixes 3 (some .boolean) 0 0 [.ref (aG G 42)] τ r υ := mk_I (by decide) (Nat.le_of_ble_eq_true rfl) (fun p e s m args below meth c X hH ls hl => b_Mo_mixes_42_0 (N := N) X hH (lv_sub hl [0] rfl) hf)
set_option maxHeartbeats 4000000 in
set_option maxRecDepth 100000 in
theorem b_Mo_dues_42_55 {l : Launch} {G : GT} {N : Nat} {p : Program} {e : Env} {s : State} {m : MethodId} {args : Array Value} {below : List Frame} {meth : Method} {c : Code} (X : Cx G p s m args meth c cX11_dues 4 RX11 none) {r : Int32} {υ : Hp} {k2 : Hp → Int32 → Int32 → OR} (hk2 : ∀ (τ : Hp) (v1 v2 : Int32) (H : Heap) (locs : List Loc) (ls : Array Slot), Hs G τ s H locs → lv_has ls 4 [(0, .ref (aG G 42)), (1, .int v1), (2, .int v2)] → k2 τ v1 v2 = some (r, υ) → WV l G (rmG 2 44) p e s m args below meth c υ H locs (F0 m 2 ls [])) {τ : Hp} {v1 v2 v3 w0 w1 : Int32} {H : Heap} {locs : List Loc} {ls : Array Slot} (hH : Hs G τ s H locs) (hl : lv_has ls 4 [(0, .ref (aG G 42)), (1, .int v1), (2, .int v2), (3, .int v3)]) (hf : f_Mo_dues_J55 N 42 k2 τ v1 v2 v3 w0 w1 = some (r, υ)) : WV l G (rmG 2 44) p e s m args below meth c υ H locs (F0 m 55 ls [.int w0, .int w1, .ref (aG G 51)]) := by
  have hx := X.hx
  have hb := X.hb
  unfold f_Mo_dues_J55 at hf
  obtain ⟨g1, hf⟩ := e_g hf
  obtain ⟨τ2, eτ2, hf⟩ := e_l hf
  refine a_st X hH (aa_51 G) g1 dX11_dues_55 (fun H locs hH => ?_)
  have hH : Hs G τ2 s H locs := by rw [eτ2]; exact hH
  refine lv_aload_n hx hb dX11_dues_56 rfl (lv_at hl 0 rfl) ?_
  refine g_get X hH (fa_42_15 G) tw_541 dX11_dues_57 ?_
  refine lv_iload_n hx hb dX11_dues_60 rfl (lv_at hl 2 rfl) ?_
  refine lv_iload_n hx hb dX11_dues_61 rfl (lv_at hl 3 rfl) ?_
  refine lv_if_eq (tgt := 83) hx hb dX11_dues_62 (by decide) (fun c3 => ?_) (fun c3 => ?_)
  · have hf := e_t c3 hf
    refine lv_iconst (v := 0) hx hb dX11_dues_83 (by decide) ?_
    obtain ⟨g4, hf⟩ := e_g hf
    obtain ⟨τ5, eτ5, hf⟩ := e_l hf
    refine z_st X hH (aa_50 G) g4 dX11_dues_84 (fun H locs hH => ?_)
    have hH : Hs G τ5 s H locs := by rw [eτ5]; exact hH
    obtain ⟨x6, ex6, hf⟩ := e_l hf
    refine lv_iinc (v := x6) (lv' := [(2, .int x6), (0, .ref (aG G 42)), (1, .int v1), (3, .int v3)]) hx hb dX11_dues_85 hl (k := 2) rfl (by rw [ex6]; rfl) (by decide) rfl (fun ls hl => ?_)
    refine lv_goto (tgt := 2) hx hb dX11_dues_88 (by decide) ?_
    exact hk2 _ _ _ _ _ _ hH (lv_sub hl [1, 2, 0] rfl) hf
  · have hf := e_f c3 hf
    refine lv_aload_n hx hb dX11_dues_65 rfl (lv_at hl 0 rfl) ?_
    refine lv_iload_n hx hb dX11_dues_66 rfl (lv_at hl 2 rfl) ?_
    refine lv_aload_n hx hb dX11_dues_67 rfl (lv_at hl 0 rfl) ?_
    refine g_get X hH (fa_42_16 G) tw_542 dX11_dues_68 ?_
    refine lv_iload_n hx hb dX11_dues_71 rfl (lv_at hl 2 rfl) ?_
    obtain ⟨g7, hf⟩ := e_g hf
    refine a_ld X hH (aa_51 G) g7 dX11_dues_72 ?_
    obtain ⟨r8, τ9, hc10, hf⟩ := e_b hf
    refine c_Vi X hH (k := 42) (n := 2) (As := [.int _, .int _]) (rest := [.int _, .ref (aG G 50)]) (c_Mo_isNeeded_42 l G (N := N) hc10) (by decide) rfl rfl tw_651 tw_649 tw_650 tw_772 tw_13 (by decide +kernel) ⟨by decide, by decide⟩ rfl hl.1 rfl (Nat.le_of_ble_eq_true rfl) ⟨Nat.zero_le _, Nat.zero_le _⟩ dX11_dues_73 (fun H locs hH => ?_)
    refine lv_if_eq (tgt := 83) hx hb dX11_dues_76 (by decide) (fun c11 => ?_) (fun c11 => ?_)
    · have hf := e_t c11 hf
      refine lv_iconst (v := 0) hx hb dX11_dues_83 (by decide) ?_
      obtain ⟨g12, hf⟩ := e_g hf
      obtain ⟨τ13, eτ13, hf⟩ := e_l hf
      refine z_st X hH (aa_50 G) g12 dX11_dues_84 (fun H locs hH => ?_)
      have hH : Hs G τ13 s H locs := by rw [eτ13]; exact hH
      obtain ⟨x14, ex14, hf⟩ := e_l hf
      refine lv_iinc (v := x14) (lv' := [(2, .int x14), (0, .ref (aG G 42)), (1, .int v1), (3, .int v3)]) hx hb dX11_dues_85 hl (k := 2) rfl (by rw [ex14]; rfl) (by decide) rfl (fun ls hl => ?_)
      refine lv_goto (tgt := 2) hx hb dX11_dues_88 (by decide) ?_
      exact hk2 _ _ _ _ _ _ hH (lv_sub hl [1, 2, 0] rfl) hf
    · have hf := e_f c11 hf
      refine lv_iconst (v := 1) hx hb dX11_dues_79 (by decide) ?_
      refine lv_goto (tgt := 84) hx hb dX11_dues_80 (by decide) ?_
      obtain ⟨g15, hf⟩ := e_g hf
      obtain ⟨τ16, eτ16, hf⟩ := e_l hf
      refine z_st X hH (aa_50 G) g15 dX11_dues_84 (fun H locs hH => ?_)
      have hH : Hs G τ16 s H locs := by rw [eτ16]; exact hH
      obtain ⟨x17, ex17, hf⟩ := e_l hf
      refine lv_iinc (v := x17) (lv' := [(2, .int x17), (0, .ref (aG G 42)), (1, .int v1), (3, .int v3)]) hx hb dX11_dues_85 hl (k := 2) rfl (by rw [ex17]; rfl) (by decide) rfl (fun ls hl => ?_)
      refine lv_goto (tgt := 2) hx hb dX11_dues_88 (by decide) ?_
      exact hk2 _ _ _ _ _ _ hH (lv_sub hl [1, 2, 0] rfl) hf
set_option maxHeartbeats 4000000 in
set_option maxRecDepth 100000 in
theorem b_Mo_dues_42_35 {l : Launch} {G : GT} {N : Nat} {p : Program} {e : Env} {s : State} {m : MethodId} {args : Array Value} {below : List Frame} {meth : Method} {c : Code} (X : Cx G p s m args meth c cX11_dues 4 RX11 none) {r : Int32} {υ : Hp} {k2 : Hp → Int32 → Int32 → OR} (hk2 : ∀ (τ : Hp) (v1 v2 : Int32) (H : Heap) (locs : List Loc) (ls : Array Slot), Hs G τ s H locs → lv_has ls 4 [(0, .ref (aG G 42)), (1, .int v1), (2, .int v2)] → k2 τ v1 v2 = some (r, υ) → WV l G (rmG 2 44) p e s m args below meth c υ H locs (F0 m 2 ls [])) {τ : Hp} {v1 v2 w0 : Int32} {H : Heap} {locs : List Loc} {ls : Array Slot} (hH : Hs G τ s H locs) (hl : lv_has ls 4 [(0, .ref (aG G 42)), (1, .int v1), (2, .int v2)]) (hf : f_Mo_dues_J35 N 42 k2 τ v1 v2 w0 = some (r, υ)) : WV l G (rmG 2 44) p e s m args below meth c υ H locs (F0 m 35 ls [.int w0]) := by
  have hx := X.hx
  have hb := X.hb
  unfold f_Mo_dues_J35 at hf
  refine lv_istore_n (lv' := [(3, .int w0), (0, .ref (aG G 42)), (1, .int v1), (2, .int v2)]) hx hb dX11_dues_35 rfl hl (by decide) rfl (fun ls hl => ?_)
  refine lv_aload_n hx hb dX11_dues_36 rfl (lv_at hl 1 rfl) ?_
  refine g_get X hH (fa_42_16 G) tw_542 dX11_dues_37 ?_
  refine lv_iload_n hx hb dX11_dues_40 rfl (lv_at hl 3 rfl) ?_
  refine lv_iload_n hx hb dX11_dues_41 rfl (lv_at hl 0 rfl) ?_
  refine lv_if_eq (tgt := 54) hx hb dX11_dues_42 (by decide) (fun c1 => ?_) (fun c1 => ?_)
  · have hf := e_t c1 hf
    refine lv_iconst (v := 0) hx hb dX11_dues_54 (by decide) ?_
    exact b_Mo_dues_42_55 (N := N) X hk2 hH (lv_sub hl [1, 2, 3, 0] rfl) hf
  · have hf := e_f c1 hf
    refine lv_aload_n hx hb dX11_dues_45 rfl (lv_at hl 1 rfl) ?_
    refine lv_iload_n hx hb dX11_dues_46 rfl (lv_at hl 3 rfl) ?_
    refine lv_iload_n hx hb dX11_dues_47 rfl (lv_at hl 2 rfl) ?_
    obtain ⟨r2, τ3, hc4, hf⟩ := e_b hf
    refine c_Vi X hH (k := 42) (n := 2) (As := [.int _, .int _]) (rest := [.int _, .ref (aG G 51)]) (c_Mo_weightOf_42 l G (N := N) hc4) (by decide) rfl rfl tw_644 tw_642 tw_643 tw_771 tw_13 (by decide +kernel) ⟨by decide, by decide⟩ rfl hl.1 rfl (Nat.le_of_ble_eq_true rfl) ⟨Nat.zero_le _, Nat.zero_le _⟩ dX11_dues_48 (fun H locs hH => ?_)
    refine lv_goto (tgt := 55) hx hb dX11_dues_51 (by decide) ?_
    exact b_Mo_dues_42_55 (N := N) X hk2 hH (lv_sub hl [1, 2, 3, 0] rfl) hf
set_option maxHeartbeats 4000000 in
set_option maxRecDepth 100000 in
theorem b_Mo_dues_42_2b {l : Launch} {G : GT} {N : Nat} {p : Program} {e : Env} {s : State} {m : MethodId} {args : Array Value} {below : List Frame} {meth : Method} {c : Code} (X : Cx G p s m args meth c cX11_dues 4 RX11 none) {r : Int32} {υ : Hp} {k2 : Hp → Int32 → Int32 → OR} (hk2 : ∀ (τ : Hp) (v1 v2 : Int32) (H : Heap) (locs : List Loc) (ls : Array Slot), Hs G τ s H locs → lv_has ls 4 [(0, .ref (aG G 42)), (1, .int v1), (2, .int v2)] → k2 τ v1 v2 = some (r, υ) → WV l G (rmG 2 44) p e s m args below meth c υ H locs (F0 m 2 ls [])) {τ : Hp} {v1 v2 : Int32} {H : Heap} {locs : List Loc} {ls : Array Slot} (hH : Hs G τ s H locs) (hl : lv_has ls 4 [(0, .ref (aG G 42)), (1, .int v1), (2, .int v2)]) (hf : f_Mo_dues_L2b N 42 k2 τ v1 v2 = some (r, υ)) : WV l G (rmG 2 44) p e s m args below meth c υ H locs (F0 m 2 ls []) := by
  have hx := X.hx
  have hb := X.hb
  unfold f_Mo_dues_L2b at hf
  refine lv_iload_n hx hb dX11_dues_2 rfl (lv_at hl 2 rfl) ?_
  refine lv_sipush (v := 256) hx hb dX11_dues_3 (by decide) ?_
  refine lv_icmp_ge (tgt := 91) hx hb dX11_dues_6 (by decide) (fun c1 => ?_) (fun c1 => ?_)
  · have hf := e_t c1 hf
    exact r_v X hH hf dX11_dues_91
  · have hf := e_f c1 hf
    refine lv_aload_n hx hb dX11_dues_9 rfl (lv_at hl 0 rfl) ?_
    refine lv_iload_n hx hb dX11_dues_10 rfl (lv_at hl 2 rfl) ?_
    refine lv_bipush (v := 32) hx hb dX11_dues_11 (by decide) ?_
    refine lv_idiv hx hb dX11_dues_13 (by decide) ?_
    refine lv_iload_n hx hb dX11_dues_14 rfl (lv_at hl 2 rfl) ?_
    refine lv_iconst (v := 4) hx hb dX11_dues_15 (by decide) ?_
    refine lv_idiv hx hb dX11_dues_16 (by decide) ?_
    refine lv_bipush (v := 8) hx hb dX11_dues_17 (by decide) ?_
    refine lv_irem hx hb dX11_dues_19 (by decide) ?_
    refine lv_iload_n hx hb dX11_dues_20 rfl (lv_at hl 2 rfl) ?_
    refine lv_iconst (v := 4) hx hb dX11_dues_21 (by decide) ?_
    refine lv_irem hx hb dX11_dues_22 (by decide) ?_
    obtain ⟨r2, τ3, hc4, hf⟩ := e_b hf
    refine c_Vi X hH (k := 42) (n := 3) (As := [.int _, .int _, .int _]) (rest := []) (c_Mo_way_42 l G (N := N) hc4) (by decide) rfl rfl tw_615 tw_613 tw_614 tw_769 tw_13 (by decide +kernel) ⟨by decide, by decide⟩ rfl hl.1 rfl (Nat.le_of_ble_eq_true rfl) ⟨Nat.zero_le _, Nat.zero_le _⟩ dX11_dues_23 (fun H locs hH => ?_)
    refine lv_iconst (v := (-1)) hx hb dX11_dues_26 (by decide) ?_
    refine lv_icmp_eq (tgt := 34) hx hb dX11_dues_27 (by decide) (fun c5 => ?_) (fun c5 => ?_)
    · have hf := e_t c5 hf
      refine lv_iconst (v := 0) hx hb dX11_dues_34 (by decide) ?_
      exact b_Mo_dues_42_35 (N := N) X hk2 hH (lv_sub hl [0, 1, 2] rfl) hf
    · have hf := e_f c5 hf
      refine lv_iconst (v := 1) hx hb dX11_dues_30 (by decide) ?_
      refine lv_goto (tgt := 35) hx hb dX11_dues_31 (by decide) ?_
      exact b_Mo_dues_42_35 (N := N) X hk2 hH (lv_sub hl [0, 1, 2] rfl) hf
theorem b_Mo_dues_42_2 {l : Launch} {G : GT} {N : Nat} {p : Program} {e : Env} {s : State} {m : MethodId} {args : Array Value} {below : List Frame} {meth : Method} {c : Code} (X : Cx G p s m args meth c cX11_dues 4 RX11 none) {r : Int32} {υ : Hp} : ∀ (n : Nat) (τ : Hp) (v1 v2 : Int32) (H : Heap) (locs : List Loc) (ls : Array Slot), Hs G τ s H locs → lv_has ls 4 [(0, .ref (aG G 42)), (1, .int v1), (2, .int v2)] → f_Mo_dues_L2 N 42 n τ v1 v2 = some (r, υ) → WV l G (rmG 2 44) p e s m args below meth c υ H locs (F0 m 2 ls []) := by
  intro n
  induction n with
  | zero => intro τ v1 v2 H locs ls hH hl hf; exact nomatch (show (none : OR) = some (r, υ) from hf)
  | succ n ih => intro τ v1 v2 H locs ls hH hl hf; exact b_Mo_dues_42_2b (N := N) X ih hH hl hf
set_option maxHeartbeats 4000000 in
set_option maxRecDepth 100000 in
theorem b_Mo_dues_42_0 {l : Launch} {G : GT} {N : Nat} {p : Program} {e : Env} {s : State} {m : MethodId} {args : Array Value} {below : List Frame} {meth : Method} {c : Code} (X : Cx G p s m args meth c cX11_dues 4 RX11 none) {r : Int32} {υ : Hp} {τ : Hp} {v1 : Int32} {H : Heap} {locs : List Loc} {ls : Array Slot} (hH : Hs G τ s H locs) (hl : lv_has ls 4 [(0, .ref (aG G 42)), (1, .int v1)]) (hf : f_Mo_dues N 42 τ v1 = some (r, υ)) : WV l G (rmG 2 44) p e s m args below meth c υ H locs (F0 m 0 ls []) := by
  have hx := X.hx
  have hb := X.hb
  unfold f_Mo_dues at hf
  refine lv_iconst (v := 0) hx hb dX11_dues_0 (by decide) ?_
  refine lv_istore_n (lv' := [(2, .int 0), (0, .ref (aG G 42)), (1, .int v1)]) hx hb dX11_dues_1 rfl hl (by decide) rfl (fun ls hl => ?_)
  exact b_Mo_dues_42_2 (N := N) X _ _ _ _ _ _ _ hH (lv_sub hl [1, 2, 0] rfl) hf
theorem c_Mo_dues_42 (l : Launch) (G : GT) {N : Nat} {τ υ : Hp} {v1 : Int32} {r : Int32} (hf : f_Mo_dues N 42 τ v1 = some (r, υ)) : MV l G yX11_dues cX11_dues 4 2 44 [.ref (aG G 42), .int v1] τ υ := mk_V (by decide) (Nat.le_of_ble_eq_true rfl) (fun p e s m args below meth c X hH ls hl => b_Mo_dues_42_0 (N := N) X hH (lv_sub hl [0, 1] rfl) hf)
set_option maxHeartbeats 4000000 in
set_option maxRecDepth 100000 in
theorem b_Mo_plan_42_114b {l : Launch} {G : GT} {N : Nat} {p : Program} {e : Env} {s : State} {m : MethodId} {args : Array Value} {below : List Frame} {meth : Method} {c : Code} (X : Cx G p s m args meth c cX11_plan 6 RX11 (some .int)) {r : Int32} {υ : Hp} {k63 : Hp → Int32 → Int32 → OR} (hk63 : ∀ (τ : Hp) (v2 v3 : Int32) (H : Heap) (locs : List Loc) (ls : Array Slot), Hs G τ s H locs → lv_has ls 6 [(0, .ref (aG G 42)), (2, .int v2), (3, .int v3)] → k63 τ v2 v3 = some (r, υ) → WI l G (rmG 4 88) p e s m args below meth c r υ H locs (F0 m 63 ls [])) {k114 : Hp → Int32 → Int32 → OR} (hk114 : ∀ (τ : Hp) (v2 v5 : Int32) (H : Heap) (locs : List Loc) (ls : Array Slot), Hs G τ s H locs → lv_has ls 6 [(0, .ref (aG G 42)), (2, .int v2), (5, .int v5)] → k114 τ v2 v5 = some (r, υ) → WI l G (rmG 4 88) p e s m args below meth c r υ H locs (F0 m 114 ls [])) {τ : Hp} {v2 v5 : Int32} {H : Heap} {locs : List Loc} {ls : Array Slot} (hH : Hs G τ s H locs) (hl : lv_has ls 6 [(0, .ref (aG G 42)), (2, .int v2), (5, .int v5)]) (hf : f_Mo_plan_L114b N 42 k63 k114 τ v2 v5 = some (r, υ)) : WI l G (rmG 4 88) p e s m args below meth c r υ H locs (F0 m 114 ls []) := by
  have hx := X.hx
  have hb := X.hb
  unfold f_Mo_plan_L114b at hf
  refine lv_iload hx hb dX11_plan_114 (lv_at hl 2 rfl) ?_
  refine lv_bipush (v := 8) hx hb dX11_plan_116 (by decide) ?_
  refine lv_icmp_ge (tgt := 141) hx hb dX11_plan_118 (by decide) (fun c1 => ?_) (fun c1 => ?_)
  · have hf := e_t c1 hf
    refine lv_aload_n hx hb dX11_plan_141 rfl (lv_at hl 0 rfl) ?_
    obtain ⟨r2, τ3, hc4, hf⟩ := e_b hf
    refine c_Vi X hH (k := 42) (n := 0) (As := []) (rest := []) (c_Mo_goesOn_42 l G (N := N) hc4) (by decide) rfl rfl tw_673 tw_671 tw_672 tw_778 tw_13 (by decide +kernel) ⟨by decide, by decide⟩ rfl hl.1 rfl (Nat.le_of_ble_eq_true rfl) ⟨Nat.zero_le _, Nat.zero_le _⟩ dX11_plan_142 (fun H locs hH => ?_)
    refine lv_istore_n (lv' := [(3, .int r2), (0, .ref (aG G 42)), (2, .int v2), (5, .int v5)]) hx hb dX11_plan_145 rfl hl (by decide) rfl (fun ls hl => ?_)
    refine lv_goto (tgt := 63) hx hb dX11_plan_146 (by decide) ?_
    exact hk63 _ _ _ _ _ _ hH (lv_sub hl [1, 2, 0] rfl) hf
  · have hf := e_f c1 hf
    refine lv_aload_n hx hb dX11_plan_121 rfl (lv_at hl 0 rfl) ?_
    refine g_get X hH (fa_42_23 G) tw_549 dX11_plan_122 ?_
    refine lv_iload hx hb dX11_plan_125 (lv_at hl 2 rfl) ?_
    refine lv_aload_n hx hb dX11_plan_127 rfl (lv_at hl 0 rfl) ?_
    refine g_get X hH (fa_42_22 G) tw_548 dX11_plan_128 ?_
    refine lv_iload hx hb dX11_plan_131 (lv_at hl 2 rfl) ?_
    obtain ⟨g5, hf⟩ := e_g hf
    refine a_ld X hH (aa_54 G) g5 dX11_plan_133 ?_
    obtain ⟨g6, hf⟩ := e_g hf
    obtain ⟨τ7, eτ7, hf⟩ := e_l hf
    refine a_st X hH (aa_55 G) g6 dX11_plan_134 (fun H locs hH => ?_)
    have hH : Hs G τ7 s H locs := by rw [eτ7]; exact hH
    obtain ⟨x8, ex8, hf⟩ := e_l hf
    refine lv_iinc (v := x8) (lv' := [(5, .int x8), (0, .ref (aG G 42)), (2, .int v2)]) hx hb dX11_plan_135 hl (k := 2) rfl (by rw [ex8]; rfl) (by decide) rfl (fun ls hl => ?_)
    refine lv_goto (tgt := 114) hx hb dX11_plan_138 (by decide) ?_
    exact hk114 _ _ _ _ _ _ hH (lv_sub hl [1, 2, 0] rfl) hf
theorem b_Mo_plan_42_114 {l : Launch} {G : GT} {N : Nat} {p : Program} {e : Env} {s : State} {m : MethodId} {args : Array Value} {below : List Frame} {meth : Method} {c : Code} (X : Cx G p s m args meth c cX11_plan 6 RX11 (some .int)) {r : Int32} {υ : Hp} {k63 : Hp → Int32 → Int32 → OR} (hk63 : ∀ (τ : Hp) (v2 v3 : Int32) (H : Heap) (locs : List Loc) (ls : Array Slot), Hs G τ s H locs → lv_has ls 6 [(0, .ref (aG G 42)), (2, .int v2), (3, .int v3)] → k63 τ v2 v3 = some (r, υ) → WI l G (rmG 4 88) p e s m args below meth c r υ H locs (F0 m 63 ls [])) : ∀ (n : Nat) (τ : Hp) (v2 v5 : Int32) (H : Heap) (locs : List Loc) (ls : Array Slot), Hs G τ s H locs → lv_has ls 6 [(0, .ref (aG G 42)), (2, .int v2), (5, .int v5)] → f_Mo_plan_L114 N 42 k63 n τ v2 v5 = some (r, υ) → WI l G (rmG 4 88) p e s m args below meth c r υ H locs (F0 m 114 ls []) := by
  intro n
  induction n with
  | zero => intro τ v2 v5 H locs ls hH hl hf; exact nomatch (show (none : OR) = some (r, υ) from hf)
  | succ n ih => intro τ v2 v5 H locs ls hH hl hf; exact b_Mo_plan_42_114b (N := N) X hk63 ih hH hl hf
set_option maxHeartbeats 4000000 in
set_option maxRecDepth 100000 in
theorem b_Mo_plan_42_89 {l : Launch} {G : GT} {N : Nat} {p : Program} {e : Env} {s : State} {m : MethodId} {args : Array Value} {below : List Frame} {meth : Method} {c : Code} (X : Cx G p s m args meth c cX11_plan 6 RX11 (some .int)) {r : Int32} {υ : Hp} {k63 : Hp → Int32 → Int32 → OR} (hk63 : ∀ (τ : Hp) (v2 v3 : Int32) (H : Heap) (locs : List Loc) (ls : Array Slot), Hs G τ s H locs → lv_has ls 6 [(0, .ref (aG G 42)), (2, .int v2), (3, .int v3)] → k63 τ v2 v3 = some (r, υ) → WI l G (rmG 4 88) p e s m args below meth c r υ H locs (F0 m 63 ls [])) {τ : Hp} {v2 w0 : Int32} {H : Heap} {locs : List Loc} {ls : Array Slot} (hH : Hs G τ s H locs) (hl : lv_has ls 6 [(0, .ref (aG G 42)), (2, .int v2)]) (hf : f_Mo_plan_J89 N 42 k63 τ v2 w0 = some (r, υ)) : WI l G (rmG 4 88) p e s m args below meth c r υ H locs (F0 m 89 ls [.int w0]) := by
  have hx := X.hx
  have hb := X.hb
  unfold f_Mo_plan_J89 at hf
  refine lv_istore (lv' := [(4, .int w0), (0, .ref (aG G 42)), (2, .int v2)]) hx hb dX11_plan_89 hl (by decide) rfl (fun ls hl => ?_)
  refine lv_iload hx hb dX11_plan_91 (lv_at hl 0 rfl) ?_
  refine lv_iconst (v := (-1)) hx hb dX11_plan_93 (by decide) ?_
  refine lv_icmp_eq (tgt := 141) hx hb dX11_plan_94 (by decide) (fun c1 => ?_) (fun c1 => ?_)
  · have hf := e_t c1 hf
    refine lv_aload_n hx hb dX11_plan_141 rfl (lv_at hl 1 rfl) ?_
    obtain ⟨r2, τ3, hc4, hf⟩ := e_b hf
    refine c_Vi X hH (k := 42) (n := 0) (As := []) (rest := []) (c_Mo_goesOn_42 l G (N := N) hc4) (by decide) rfl rfl tw_673 tw_671 tw_672 tw_778 tw_13 (by decide +kernel) ⟨by decide, by decide⟩ rfl hl.1 rfl (Nat.le_of_ble_eq_true rfl) ⟨Nat.zero_le _, Nat.zero_le _⟩ dX11_plan_142 (fun H locs hH => ?_)
    refine lv_istore_n (lv' := [(3, .int r2), (4, .int w0), (0, .ref (aG G 42)), (2, .int v2)]) hx hb dX11_plan_145 rfl hl (by decide) rfl (fun ls hl => ?_)
    refine lv_goto (tgt := 63) hx hb dX11_plan_146 (by decide) ?_
    exact hk63 _ _ _ _ _ _ hH (lv_sub hl [2, 3, 0] rfl) hf
  · have hf := e_f c1 hf
    refine lv_iload_n hx hb dX11_plan_97 rfl (lv_at hl 2 rfl) ?_
    refine lv_iconst (v := (-1)) hx hb dX11_plan_98 (by decide) ?_
    refine lv_icmp_eq (tgt := 108) hx hb dX11_plan_99 (by decide) (fun c5 => ?_) (fun c5 => ?_)
    · have hf := e_t c5 hf
      refine lv_iload hx hb dX11_plan_108 (lv_at hl 0 rfl) ?_
      refine lv_istore_n (lv' := [(2, .int w0), (4, .int w0), (0, .ref (aG G 42))]) hx hb dX11_plan_110 rfl hl (by decide) rfl (fun ls hl => ?_)
      refine lv_iconst (v := 0) hx hb dX11_plan_111 (by decide) ?_
      refine lv_istore (lv' := [(5, .int 0), (2, .int w0), (4, .int w0), (0, .ref (aG G 42))]) hx hb dX11_plan_112 hl (by decide) rfl (fun ls hl => ?_)
      exact b_Mo_plan_42_114 (N := N) X hk63 _ _ _ _ _ _ _ hH (lv_sub hl [3, 1, 0] rfl) hf
    · have hf := e_f c5 hf
      refine lv_iload hx hb dX11_plan_102 (lv_at hl 0 rfl) ?_
      refine lv_iload_n hx hb dX11_plan_104 rfl (lv_at hl 2 rfl) ?_
      refine lv_icmp_ge (tgt := 141) hx hb dX11_plan_105 (by decide) (fun c6 => ?_) (fun c6 => ?_)
      · have hf := e_t c6 hf
        refine lv_aload_n hx hb dX11_plan_141 rfl (lv_at hl 1 rfl) ?_
        obtain ⟨r7, τ8, hc9, hf⟩ := e_b hf
        refine c_Vi X hH (k := 42) (n := 0) (As := []) (rest := []) (c_Mo_goesOn_42 l G (N := N) hc9) (by decide) rfl rfl tw_673 tw_671 tw_672 tw_778 tw_13 (by decide +kernel) ⟨by decide, by decide⟩ rfl hl.1 rfl (Nat.le_of_ble_eq_true rfl) ⟨Nat.zero_le _, Nat.zero_le _⟩ dX11_plan_142 (fun H locs hH => ?_)
        refine lv_istore_n (lv' := [(3, .int r7), (4, .int w0), (0, .ref (aG G 42)), (2, .int v2)]) hx hb dX11_plan_145 rfl hl (by decide) rfl (fun ls hl => ?_)
        refine lv_goto (tgt := 63) hx hb dX11_plan_146 (by decide) ?_
        exact hk63 _ _ _ _ _ _ hH (lv_sub hl [2, 3, 0] rfl) hf
      · have hf := e_f c6 hf
        refine lv_iload hx hb dX11_plan_108 (lv_at hl 0 rfl) ?_
        refine lv_istore_n (lv' := [(2, .int w0), (4, .int w0), (0, .ref (aG G 42))]) hx hb dX11_plan_110 rfl hl (by decide) rfl (fun ls hl => ?_)
        refine lv_iconst (v := 0) hx hb dX11_plan_111 (by decide) ?_
        refine lv_istore (lv' := [(5, .int 0), (2, .int w0), (4, .int w0), (0, .ref (aG G 42))]) hx hb dX11_plan_112 hl (by decide) rfl (fun ls hl => ?_)
        exact b_Mo_plan_42_114 (N := N) X hk63 _ _ _ _ _ _ _ hH (lv_sub hl [3, 1, 0] rfl) hf
set_option maxHeartbeats 4000000 in
set_option maxRecDepth 100000 in
theorem b_Mo_plan_42_85 {l : Launch} {G : GT} {N : Nat} {p : Program} {e : Env} {s : State} {m : MethodId} {args : Array Value} {below : List Frame} {meth : Method} {c : Code} (X : Cx G p s m args meth c cX11_plan 6 RX11 (some .int)) {r : Int32} {υ : Hp} {k63 : Hp → Int32 → Int32 → OR} (hk63 : ∀ (τ : Hp) (v2 v3 : Int32) (H : Heap) (locs : List Loc) (ls : Array Slot), Hs G τ s H locs → lv_has ls 6 [(0, .ref (aG G 42)), (2, .int v2), (3, .int v3)] → k63 τ v2 v3 = some (r, υ) → WI l G (rmG 4 88) p e s m args below meth c r υ H locs (F0 m 63 ls [])) {τ : Hp} {v2 : Int32} {H : Heap} {locs : List Loc} {ls : Array Slot} (hH : Hs G τ s H locs) (hl : lv_has ls 6 [(0, .ref (aG G 42)), (2, .int v2)]) (hf : f_Mo_plan_J85 N 42 k63 τ v2 = some (r, υ)) : WI l G (rmG 4 88) p e s m args below meth c r υ H locs (F0 m 85 ls []) := by
  have hx := X.hx
  have hb := X.hb
  unfold f_Mo_plan_J85 at hf
  refine lv_aload_n hx hb dX11_plan_85 rfl (lv_at hl 0 rfl) ?_
  obtain ⟨r1, τ2, hc3, hf⟩ := e_b hf
  refine c_Vi X hH (k := 42) (n := 0) (As := []) (rest := []) (c_Mo_costs_42 l G (N := N) hc3) (by decide) rfl rfl tw_664 tw_662 tw_663 tw_775 tw_13 (by decide +kernel) ⟨by decide, by decide⟩ rfl hl.1 rfl (Nat.le_of_ble_eq_true rfl) ⟨Nat.zero_le _, Nat.zero_le _⟩ dX11_plan_86 (fun H locs hH => ?_)
  exact b_Mo_plan_42_89 (N := N) X hk63 hH (lv_sub hl [0, 1] rfl) hf
set_option maxHeartbeats 4000000 in
set_option maxRecDepth 100000 in
theorem b_Mo_plan_42_152b {l : Launch} {G : GT} {N : Nat} {p : Program} {e : Env} {s : State} {m : MethodId} {args : Array Value} {below : List Frame} {meth : Method} {c : Code} (X : Cx G p s m args meth c cX11_plan 6 RX11 (some .int)) {r : Int32} {υ : Hp} {k152 : Hp → Int32 → Int32 → OR} (hk152 : ∀ (τ : Hp) (v2 v4 : Int32) (H : Heap) (locs : List Loc) (ls : Array Slot), Hs G τ s H locs → lv_has ls 6 [(0, .ref (aG G 42)), (2, .int v2), (4, .int v4)] → k152 τ v2 v4 = some (r, υ) → WI l G (rmG 4 88) p e s m args below meth c r υ H locs (F0 m 152 ls [])) {τ : Hp} {v2 v4 : Int32} {H : Heap} {locs : List Loc} {ls : Array Slot} (hH : Hs G τ s H locs) (hl : lv_has ls 6 [(0, .ref (aG G 42)), (2, .int v2), (4, .int v4)]) (hf : f_Mo_plan_L152b N 42 k152 τ v2 v4 = some (r, υ)) : WI l G (rmG 4 88) p e s m args below meth c r υ H locs (F0 m 152 ls []) := by
  have hx := X.hx
  have hb := X.hb
  unfold f_Mo_plan_L152b at hf
  refine lv_iload hx hb dX11_plan_152 (lv_at hl 2 rfl) ?_
  refine lv_bipush (v := 8) hx hb dX11_plan_154 (by decide) ?_
  refine lv_icmp_ge (tgt := 179) hx hb dX11_plan_156 (by decide) (fun c1 => ?_) (fun c1 => ?_)
  · have hf := e_t c1 hf
    refine lv_aload_n hx hb dX11_plan_179 rfl (lv_at hl 0 rfl) ?_
    refine lv_aload_n hx hb dX11_plan_180 rfl (lv_at hl 0 rfl) ?_
    obtain ⟨r2, τ3, hc4, hf⟩ := e_b hf
    refine c_Vi X hH (k := 42) (n := 0) (As := []) (rest := [.ref (aG G 42)]) (c_Mo_costs_42 l G (N := N) hc4) (by decide) rfl rfl tw_664 tw_662 tw_663 tw_775 tw_13 (by decide +kernel) ⟨by decide, by decide⟩ rfl hl.1 rfl (Nat.le_of_ble_eq_true rfl) ⟨Nat.zero_le _, Nat.zero_le _⟩ dX11_plan_181 (fun H locs hH => ?_)
    obtain ⟨r5, τ6, hc7, hf⟩ := e_b hf
    refine c_Vv X hH (k := 42) (n := 1) (As := [.int _]) (rest := []) (c_Mo_comes_42 l G (N := N) hc7) (by decide) rfl rfl tw_677 tw_675 tw_676 tw_779 tw_13 (by decide +kernel) ⟨by decide, by decide⟩ rfl hl.1 rfl (Nat.le_of_ble_eq_true rfl) ⟨Nat.zero_le _, Nat.zero_le _⟩ dX11_plan_184 (fun H locs hH => ?_)
    refine lv_iload_n hx hb dX11_plan_187 rfl (lv_at hl 1 rfl) ?_
    exact r_i X hH hf dX11_plan_188
  · have hf := e_f c1 hf
    refine lv_aload_n hx hb dX11_plan_159 rfl (lv_at hl 0 rfl) ?_
    refine g_get X hH (fa_42_22 G) tw_548 dX11_plan_160 ?_
    refine lv_iload hx hb dX11_plan_163 (lv_at hl 2 rfl) ?_
    refine lv_aload_n hx hb dX11_plan_165 rfl (lv_at hl 0 rfl) ?_
    refine g_get X hH (fa_42_23 G) tw_549 dX11_plan_166 ?_
    refine lv_iload hx hb dX11_plan_169 (lv_at hl 2 rfl) ?_
    obtain ⟨g8, hf⟩ := e_g hf
    refine a_ld X hH (aa_55 G) g8 dX11_plan_171 ?_
    obtain ⟨g9, hf⟩ := e_g hf
    obtain ⟨τ10, eτ10, hf⟩ := e_l hf
    refine a_st X hH (aa_54 G) g9 dX11_plan_172 (fun H locs hH => ?_)
    have hH : Hs G τ10 s H locs := by rw [eτ10]; exact hH
    obtain ⟨x11, ex11, hf⟩ := e_l hf
    refine lv_iinc (v := x11) (lv' := [(4, .int x11), (0, .ref (aG G 42)), (2, .int v2)]) hx hb dX11_plan_173 hl (k := 2) rfl (by rw [ex11]; rfl) (by decide) rfl (fun ls hl => ?_)
    refine lv_goto (tgt := 152) hx hb dX11_plan_176 (by decide) ?_
    exact hk152 _ _ _ _ _ _ hH (lv_sub hl [1, 2, 0] rfl) hf
theorem b_Mo_plan_42_152 {l : Launch} {G : GT} {N : Nat} {p : Program} {e : Env} {s : State} {m : MethodId} {args : Array Value} {below : List Frame} {meth : Method} {c : Code} (X : Cx G p s m args meth c cX11_plan 6 RX11 (some .int)) {r : Int32} {υ : Hp} : ∀ (n : Nat) (τ : Hp) (v2 v4 : Int32) (H : Heap) (locs : List Loc) (ls : Array Slot), Hs G τ s H locs → lv_has ls 6 [(0, .ref (aG G 42)), (2, .int v2), (4, .int v4)] → f_Mo_plan_L152 N 42 n τ v2 v4 = some (r, υ) → WI l G (rmG 4 88) p e s m args below meth c r υ H locs (F0 m 152 ls []) := by
  intro n
  induction n with
  | zero => intro τ v2 v4 H locs ls hH hl hf; exact nomatch (show (none : OR) = some (r, υ) from hf)
  | succ n ih => intro τ v2 v4 H locs ls hH hl hf; exact b_Mo_plan_42_152b (N := N) X ih hH hl hf
set_option maxHeartbeats 4000000 in
set_option maxRecDepth 100000 in
theorem b_Mo_plan_42_63b {l : Launch} {G : GT} {N : Nat} {p : Program} {e : Env} {s : State} {m : MethodId} {args : Array Value} {below : List Frame} {meth : Method} {c : Code} (X : Cx G p s m args meth c cX11_plan 6 RX11 (some .int)) {r : Int32} {υ : Hp} {k63 : Hp → Int32 → Int32 → OR} (hk63 : ∀ (τ : Hp) (v2 v3 : Int32) (H : Heap) (locs : List Loc) (ls : Array Slot), Hs G τ s H locs → lv_has ls 6 [(0, .ref (aG G 42)), (2, .int v2), (3, .int v3)] → k63 τ v2 v3 = some (r, υ) → WI l G (rmG 4 88) p e s m args below meth c r υ H locs (F0 m 63 ls [])) {τ : Hp} {v2 v3 : Int32} {H : Heap} {locs : List Loc} {ls : Array Slot} (hH : Hs G τ s H locs) (hl : lv_has ls 6 [(0, .ref (aG G 42)), (2, .int v2), (3, .int v3)]) (hf : f_Mo_plan_L63b N 42 k63 τ v2 v3 = some (r, υ)) : WI l G (rmG 4 88) p e s m args below meth c r υ H locs (F0 m 63 ls []) := by
  have hx := X.hx
  have hb := X.hb
  unfold f_Mo_plan_L63b at hf
  refine lv_iload_n hx hb dX11_plan_63 rfl (lv_at hl 2 rfl) ?_
  refine lv_if_eq (tgt := 149) hx hb dX11_plan_64 (by decide) (fun c1 => ?_) (fun c1 => ?_)
  · have hf := e_t c1 hf
    refine lv_iconst (v := 0) hx hb dX11_plan_149 (by decide) ?_
    refine lv_istore (lv' := [(4, .int 0), (0, .ref (aG G 42)), (2, .int v2), (3, .int v3)]) hx hb dX11_plan_150 hl (by decide) rfl (fun ls hl => ?_)
    exact b_Mo_plan_42_152 (N := N) X _ _ _ _ _ _ _ hH (lv_sub hl [1, 2, 0] rfl) hf
  · have hf := e_f c1 hf
    refine lv_aload_n hx hb dX11_plan_67 rfl (lv_at hl 0 rfl) ?_
    refine g_get X hH (fa_42_12 G) tw_538 dX11_plan_68 ?_
    refine lv_if_eq (tgt := 85) hx hb dX11_plan_71 (by decide) (fun c2 => ?_) (fun c2 => ?_)
    · have hf := e_t c2 hf
      exact b_Mo_plan_42_85 (N := N) X hk63 hH (lv_sub hl [0, 1] rfl) hf
    · have hf := e_f c2 hf
      refine lv_aload_n hx hb dX11_plan_74 rfl (lv_at hl 0 rfl) ?_
      obtain ⟨r3, τ4, hc5, hf⟩ := e_b hf
      refine c_Vi X hH (k := 42) (n := 0) (As := []) (rest := []) (c_Mo_mixes_42 l G (N := N) hc5) (by decide) rfl rfl tw_661 tw_659 tw_660 tw_774 tw_13 (by decide +kernel) ⟨by decide, by decide⟩ rfl hl.1 rfl (Nat.le_of_ble_eq_true rfl) ⟨Nat.zero_le _, Nat.zero_le _⟩ dX11_plan_75 (fun H locs hH => ?_)
      refine lv_if_eq (tgt := 85) hx hb dX11_plan_78 (by decide) (fun c6 => ?_) (fun c6 => ?_)
      · have hf := e_t c6 hf
        exact b_Mo_plan_42_85 (N := N) X hk63 hH (lv_sub hl [0, 1] rfl) hf
      · have hf := e_f c6 hf
        refine lv_iconst (v := (-1)) hx hb dX11_plan_81 (by decide) ?_
        refine lv_goto (tgt := 89) hx hb dX11_plan_82 (by decide) ?_
        exact b_Mo_plan_42_89 (N := N) X hk63 hH (lv_sub hl [0, 1] rfl) hf
theorem b_Mo_plan_42_63 {l : Launch} {G : GT} {N : Nat} {p : Program} {e : Env} {s : State} {m : MethodId} {args : Array Value} {below : List Frame} {meth : Method} {c : Code} (X : Cx G p s m args meth c cX11_plan 6 RX11 (some .int)) {r : Int32} {υ : Hp} : ∀ (n : Nat) (τ : Hp) (v2 v3 : Int32) (H : Heap) (locs : List Loc) (ls : Array Slot), Hs G τ s H locs → lv_has ls 6 [(0, .ref (aG G 42)), (2, .int v2), (3, .int v3)] → f_Mo_plan_L63 N 42 n τ v2 v3 = some (r, υ) → WI l G (rmG 4 88) p e s m args below meth c r υ H locs (F0 m 63 ls []) := by
  intro n
  induction n with
  | zero => intro τ v2 v3 H locs ls hH hl hf; exact nomatch (show (none : OR) = some (r, υ) from hf)
  | succ n ih => intro τ v2 v3 H locs ls hH hl hf; exact b_Mo_plan_42_63b (N := N) X ih hH hl hf
set_option maxHeartbeats 4000000 in
set_option maxRecDepth 100000 in
theorem b_Mo_plan_42_28b {l : Launch} {G : GT} {N : Nat} {p : Program} {e : Env} {s : State} {m : MethodId} {args : Array Value} {below : List Frame} {meth : Method} {c : Code} (X : Cx G p s m args meth c cX11_plan 6 RX11 (some .int)) {r : Int32} {υ : Hp} {k28 : Hp → Int32 → OR} (hk28 : ∀ (τ : Hp) (v2 : Int32) (H : Heap) (locs : List Loc) (ls : Array Slot), Hs G τ s H locs → lv_has ls 6 [(0, .ref (aG G 42)), (2, .int v2)] → k28 τ v2 = some (r, υ) → WI l G (rmG 4 88) p e s m args below meth c r υ H locs (F0 m 28 ls [])) {τ : Hp} {v2 : Int32} {H : Heap} {locs : List Loc} {ls : Array Slot} (hH : Hs G τ s H locs) (hl : lv_has ls 6 [(0, .ref (aG G 42)), (2, .int v2)]) (hf : f_Mo_plan_L28b N 42 k28 τ v2 = some (r, υ)) : WI l G (rmG 4 88) p e s m args below meth c r υ H locs (F0 m 28 ls []) := by
  have hx := X.hx
  have hb := X.hb
  unfold f_Mo_plan_L28b at hf
  refine lv_iload_n hx hb dX11_plan_28 rfl (lv_at hl 1 rfl) ?_
  refine lv_bipush (v := 8) hx hb dX11_plan_29 (by decide) ?_
  refine lv_icmp_ge (tgt := 59) hx hb dX11_plan_31 (by decide) (fun c1 => ?_) (fun c1 => ?_)
  · have hf := e_t c1 hf
    refine lv_iconst (v := (-1)) hx hb dX11_plan_59 (by decide) ?_
    refine lv_istore_n (lv' := [(2, .int (-1)), (0, .ref (aG G 42))]) hx hb dX11_plan_60 rfl hl (by decide) rfl (fun ls hl => ?_)
    refine lv_iconst (v := 1) hx hb dX11_plan_61 (by decide) ?_
    refine lv_istore_n (lv' := [(3, .int 1), (2, .int (-1)), (0, .ref (aG G 42))]) hx hb dX11_plan_62 rfl hl (by decide) rfl (fun ls hl => ?_)
    exact b_Mo_plan_42_63 (N := N) X _ _ _ _ _ _ _ hH (lv_sub hl [2, 1, 0] rfl) hf
  · have hf := e_f c1 hf
    refine lv_aload_n hx hb dX11_plan_34 rfl (lv_at hl 0 rfl) ?_
    refine g_get X hH (fa_42_22 G) tw_548 dX11_plan_35 ?_
    refine lv_iload_n hx hb dX11_plan_38 rfl (lv_at hl 1 rfl) ?_
    refine lv_iload_n hx hb dX11_plan_39 rfl (lv_at hl 1 rfl) ?_
    refine lv_aload_n hx hb dX11_plan_40 rfl (lv_at hl 0 rfl) ?_
    refine g_get X hH (fa_42_1 G) tw_527 dX11_plan_41 ?_
    refine lv_icmp_ge (tgt := 51) hx hb dX11_plan_44 (by decide) (fun c2 => ?_) (fun c2 => ?_)
    · have hf := e_t c2 hf
      refine lv_iconst (v := (-1)) hx hb dX11_plan_51 (by decide) ?_
      obtain ⟨g3, hf⟩ := e_g hf
      obtain ⟨τ4, eτ4, hf⟩ := e_l hf
      refine a_st X hH (aa_54 G) g3 dX11_plan_52 (fun H locs hH => ?_)
      have hH : Hs G τ4 s H locs := by rw [eτ4]; exact hH
      obtain ⟨x5, ex5, hf⟩ := e_l hf
      refine lv_iinc (v := x5) (lv' := [(2, .int x5), (0, .ref (aG G 42))]) hx hb dX11_plan_53 hl (k := 1) rfl (by rw [ex5]; rfl) (by decide) rfl (fun ls hl => ?_)
      refine lv_goto (tgt := 28) hx hb dX11_plan_56 (by decide) ?_
      exact hk28 _ _ _ _ _ hH (lv_sub hl [1, 0] rfl) hf
    · have hf := e_f c2 hf
      refine lv_iconst (v := 0) hx hb dX11_plan_47 (by decide) ?_
      refine lv_goto (tgt := 52) hx hb dX11_plan_48 (by decide) ?_
      obtain ⟨g6, hf⟩ := e_g hf
      obtain ⟨τ7, eτ7, hf⟩ := e_l hf
      refine a_st X hH (aa_54 G) g6 dX11_plan_52 (fun H locs hH => ?_)
      have hH : Hs G τ7 s H locs := by rw [eτ7]; exact hH
      obtain ⟨x8, ex8, hf⟩ := e_l hf
      refine lv_iinc (v := x8) (lv' := [(2, .int x8), (0, .ref (aG G 42))]) hx hb dX11_plan_53 hl (k := 1) rfl (by rw [ex8]; rfl) (by decide) rfl (fun ls hl => ?_)
      refine lv_goto (tgt := 28) hx hb dX11_plan_56 (by decide) ?_
      exact hk28 _ _ _ _ _ hH (lv_sub hl [1, 0] rfl) hf
theorem b_Mo_plan_42_28 {l : Launch} {G : GT} {N : Nat} {p : Program} {e : Env} {s : State} {m : MethodId} {args : Array Value} {below : List Frame} {meth : Method} {c : Code} (X : Cx G p s m args meth c cX11_plan 6 RX11 (some .int)) {r : Int32} {υ : Hp} : ∀ (n : Nat) (τ : Hp) (v2 : Int32) (H : Heap) (locs : List Loc) (ls : Array Slot), Hs G τ s H locs → lv_has ls 6 [(0, .ref (aG G 42)), (2, .int v2)] → f_Mo_plan_L28 N 42 n τ v2 = some (r, υ) → WI l G (rmG 4 88) p e s m args below meth c r υ H locs (F0 m 28 ls []) := by
  intro n
  induction n with
  | zero => intro τ v2 H locs ls hH hl hf; exact nomatch (show (none : OR) = some (r, υ) from hf)
  | succ n ih => intro τ v2 H locs ls hH hl hf; exact b_Mo_plan_42_28b (N := N) X ih hH hl hf
set_option maxHeartbeats 4000000 in
set_option maxRecDepth 100000 in
theorem b_Mo_plan_42_0 {l : Launch} {G : GT} {N : Nat} {p : Program} {e : Env} {s : State} {m : MethodId} {args : Array Value} {below : List Frame} {meth : Method} {c : Code} (X : Cx G p s m args meth c cX11_plan 6 RX11 (some .int)) {r : Int32} {υ : Hp} {τ : Hp} {v1 : Int32} {H : Heap} {locs : List Loc} {ls : Array Slot} (hH : Hs G τ s H locs) (hl : lv_has ls 6 [(0, .ref (aG G 42)), (1, .int v1)]) (hf : f_Mo_plan N 42 τ v1 = some (r, υ)) : WI l G (rmG 4 88) p e s m args below meth c r υ H locs (F0 m 0 ls []) := by
  have hx := X.hx
  have hb := X.hb
  unfold f_Mo_plan at hf
  refine lv_aload_n hx hb dX11_plan_0 rfl (lv_at hl 0 rfl) ?_
  refine lv_iconst (v := 0) hx hb dX11_plan_1 (by decide) ?_
  obtain ⟨τ1, eτ1, hf⟩ := e_l hf
  refine g_put X hH (fp_42_0 G) tw_526 rfl rfl dX11_plan_2 (fun H locs hH => ?_)
  have hH : Hs G τ1 s H locs := by rw [eτ1]; exact hH
  refine lv_iload_n hx hb dX11_plan_5 rfl (lv_at hl 1 rfl) ?_
  obtain ⟨r2, τ3, hc4, hf⟩ := e_b hf
  refine c_Si X hH (n := 1) (As := [.int _]) (rest := []) (c_Mo_isDay l G (N := N) hc4) tw_621 tw_619 tw_620 tw_13 (by decide +kernel) ⟨by decide, by decide⟩ rfl hl.1 rfl (Nat.le_of_ble_eq_true rfl) ⟨Nat.zero_le _, Nat.zero_le _⟩ dX11_plan_6 (fun H locs hH => ?_)
  refine lv_if_eq (tgt := 19) hx hb dX11_plan_9 (by decide) (fun c5 => ?_) (fun c5 => ?_)
  · have hf := e_t c5 hf
    refine lv_iconst (v := (-1)) hx hb dX11_plan_19 (by decide) ?_
    exact r_i X hH hf dX11_plan_20
  · have hf := e_f c5 hf
    refine lv_aload_n hx hb dX11_plan_12 rfl (lv_at hl 0 rfl) ?_
    refine g_get X hH (fa_42_1 G) tw_527 dX11_plan_13 ?_
    refine lv_if_ne (tgt := 21) hx hb dX11_plan_16 (by decide) (fun c6 => ?_) (fun c6 => ?_)
    · have hf := e_f c6 hf
      refine lv_aload_n hx hb dX11_plan_21 rfl (lv_at hl 0 rfl) ?_
      refine lv_iload_n hx hb dX11_plan_22 rfl (lv_at hl 1 rfl) ?_
      obtain ⟨r7, τ8, hc9, hf⟩ := e_b hf
      refine c_Vv X hH (k := 42) (n := 1) (As := [.int _]) (rest := []) (c_Mo_dues_42 l G (N := N) hc9) (by decide) rfl rfl tw_658 tw_656 tw_657 tw_773 tw_13 (by decide +kernel) ⟨by decide, by decide⟩ rfl hl.1 rfl (Nat.le_of_ble_eq_true rfl) ⟨Nat.zero_le _, Nat.zero_le _⟩ dX11_plan_23 (fun H locs hH => ?_)
      refine lv_iconst (v := 0) hx hb dX11_plan_26 (by decide) ?_
      refine lv_istore_n (lv' := [(2, .int 0), (0, .ref (aG G 42)), (1, .int v1)]) hx hb dX11_plan_27 rfl hl (by decide) rfl (fun ls hl => ?_)
      exact b_Mo_plan_42_28 (N := N) X _ _ _ _ _ _ hH (lv_sub hl [1, 0] rfl) hf
    · have hf := e_t c6 hf
      refine lv_iconst (v := (-1)) hx hb dX11_plan_19 (by decide) ?_
      exact r_i X hH hf dX11_plan_20
theorem c_Mo_plan_42 (l : Launch) (G : GT) {N : Nat} {τ υ : Hp} {v1 : Int32} {r : Int32} (hf : f_Mo_plan N 42 τ v1 = some (r, υ)) : MI l G yX11_plan cX11_plan 6 (some .int) 4 88 [.ref (aG G 42), .int v1] τ r υ := mk_I (by decide) (Nat.le_of_ble_eq_true rfl) (fun p e s m args below meth c X hH ls hl => b_Mo_plan_42_0 (N := N) X hH (lv_sub hl [0, 1] rfl) hf)
set_option maxHeartbeats 4000000 in
set_option maxRecDepth 100000 in
theorem b_WP_room_0_0 {l : Launch} {G : GT} {N : Nat} {p : Program} {e : Env} {s : State} {m : MethodId} {args : Array Value} {below : List Frame} {meth : Method} {c : Code} (X : Cx G p s m args meth c cX10_room 2 RX10 (some .int)) {r : Int32} {υ : Hp} {τ : Hp} {v1 : Int32} {H : Heap} {locs : List Loc} {ls : Array Slot} (hH : Hs G τ s H locs) (hl : lv_has ls 2 [(0, .ref (aG G 0)), (1, .int v1)]) (hf : f_WP_room N 0 τ v1 = some (r, υ)) : WI l G (rmG 2 43) p e s m args below meth c r υ H locs (F0 m 0 ls []) := by
  have hx := X.hx
  have hb := X.hb
  unfold f_WP_room at hf
  refine lv_aload_n hx hb dX10_room_0 rfl (lv_at hl 0 rfl) ?_
  refine g_get X hH (fa_0_0 G) tw_174 dX10_room_1 ?_
  refine lv_iload_n hx hb dX10_room_4 rfl (lv_at hl 1 rfl) ?_
  obtain ⟨r1, τ2, hc3, hf⟩ := e_b hf
  refine c_Vi X hH (k := 1) (n := 1) (As := [.int _]) (rest := []) (c_Nt_isHost_1 l G (N := N) hc3) (by decide) rfl rfl tw_214 tw_369 tw_212 tw_213 tw_2 (by decide +kernel) ⟨by decide, by decide⟩ rfl hl.1 rfl (Nat.le_of_ble_eq_true rfl) ⟨Nat.zero_le _, Nat.zero_le _⟩ dX10_room_5 (fun H locs hH => ?_)
  refine lv_if_eq (tgt := 26) hx hb dX10_room_8 (by decide) (fun c4 => ?_) (fun c4 => ?_)
  · have hf := e_t c4 hf
    refine lv_iconst (v := (-1)) hx hb dX10_room_26 (by decide) ?_
    exact r_i X hH hf dX10_room_27
  · have hf := e_f c4 hf
    refine lv_aload_n hx hb dX10_room_11 rfl (lv_at hl 0 rfl) ?_
    refine g_get X hH (fa_0_3 G) tw_177 dX10_room_12 ?_
    refine g_getN X hH (fa_10_0 G) 39 rfl dX10_room_15 ?_
    refine g_getN X hH (fa_11_0 G) 25 rfl dX10_room_18 ?_
    refine lv_iload_n hx hb dX10_room_21 rfl (lv_at hl 1 rfl) ?_
    obtain ⟨g5, hf⟩ := e_g hf
    refine a_ld X hH (aa_12 G) g5 dX10_room_22 ?_
    refine lv_goto (tgt := 27) hx hb dX10_room_23 (by decide) ?_
    exact r_i X hH hf dX10_room_27
theorem c_WP_room_0 (l : Launch) (G : GT) {N : Nat} {τ υ : Hp} {v1 : Int32} {r : Int32} (hf : f_WP_room N 0 τ v1 = some (r, υ)) : MI l G yX10_room cX10_room 2 (some .int) 2 43 [.ref (aG G 0), .int v1] τ r υ := mk_I (by decide) (Nat.le_of_ble_eq_true rfl) (fun p e s m args below meth c X hH ls hl => b_WP_room_0_0 (N := N) X hH (lv_sub hl [0, 1] rfl) hf)
set_option maxHeartbeats 4000000 in
set_option maxRecDepth 100000 in
theorem b_Mo_room_42_0 {l : Launch} {G : GT} {N : Nat} {p : Program} {e : Env} {s : State} {m : MethodId} {args : Array Value} {below : List Frame} {meth : Method} {c : Code} (X : Cx G p s m args meth c cX11_room 2 RX11 (some .int)) {r : Int32} {υ : Hp} {τ : Hp} {v1 : Int32} {H : Heap} {locs : List Loc} {ls : Array Slot} (hH : Hs G τ s H locs) (hl : lv_has ls 2 [(0, .ref (aG G 42)), (1, .int v1)]) (hf : f_Mo_room N 42 τ v1 = some (r, υ)) : WI l G (rmG 1 21) p e s m args below meth c r υ H locs (F0 m 0 ls []) := by
  have hx := X.hx
  have hb := X.hb
  unfold f_Mo_room at hf
  refine lv_aload_n hx hb dX11_room_0 rfl (lv_at hl 0 rfl) ?_
  refine lv_iconst (v := 0) hx hb dX11_room_1 (by decide) ?_
  obtain ⟨τ1, eτ1, hf⟩ := e_l hf
  refine g_put X hH (fp_42_0 G) tw_526 rfl rfl dX11_room_2 (fun H locs hH => ?_)
  have hH : Hs G τ1 s H locs := by rw [eτ1]; exact hH
  refine lv_aload_n hx hb dX11_room_5 rfl (lv_at hl 0 rfl) ?_
  refine lv_iload_n hx hb dX11_room_6 rfl (lv_at hl 1 rfl) ?_
  obtain ⟨r2, τ3, hc4, hf⟩ := e_b hf
  refine c_Vi X hH (k := 42) (n := 1) (As := [.int _]) (rest := []) (c_Mo_isHost_42 l G (N := N) hc4) (by decide) rfl rfl tw_618 tw_616 tw_617 tw_770 tw_13 (by decide +kernel) ⟨by decide, by decide⟩ rfl hl.1 rfl (Nat.le_of_ble_eq_true rfl) ⟨Nat.zero_le _, Nat.zero_le _⟩ dX11_room_7 (fun H locs hH => ?_)
  refine lv_if_eq (tgt := 22) hx hb dX11_room_10 (by decide) (fun c5 => ?_) (fun c5 => ?_)
  · have hf := e_t c5 hf
    refine lv_iconst (v := (-1)) hx hb dX11_room_22 (by decide) ?_
    exact r_i X hH hf dX11_room_23
  · have hf := e_f c5 hf
    refine lv_aload_n hx hb dX11_room_13 rfl (lv_at hl 0 rfl) ?_
    refine g_get X hH (fa_42_3 G) tw_529 dX11_room_14 ?_
    refine lv_iload_n hx hb dX11_room_17 rfl (lv_at hl 1 rfl) ?_
    obtain ⟨g6, hf⟩ := e_g hf
    refine a_ld X hH (aa_44 G) g6 dX11_room_18 ?_
    refine lv_goto (tgt := 23) hx hb dX11_room_19 (by decide) ?_
    exact r_i X hH hf dX11_room_23
theorem c_Mo_room_42 (l : Launch) (G : GT) {N : Nat} {τ υ : Hp} {v1 : Int32} {r : Int32} (hf : f_Mo_room N 42 τ v1 = some (r, υ)) : MI l G yX11_room cX11_room 2 (some .int) 1 21 [.ref (aG G 42), .int v1] τ r υ := mk_I (by decide) (Nat.le_of_ble_eq_true rfl) (fun p e s m args below meth c X hH ls hl => b_Mo_room_42_0 (N := N) X hH (lv_sub hl [0, 1] rfl) hf)
set_option maxHeartbeats 4000000 in
set_option maxRecDepth 100000 in
theorem b_Pl_isBy_10_0 {l : Launch} {G : GT} {N : Nat} {p : Program} {e : Env} {s : State} {m : MethodId} {args : Array Value} {below : List Frame} {meth : Method} {c : Code} (X : Cx G p s m args meth c cX6_isBy 4 RX6 (some .boolean)) {r : Int32} {υ : Hp} {τ : Hp} {v1 v2 v3 : Int32} {H : Heap} {locs : List Loc} {ls : Array Slot} (hH : Hs G τ s H locs) (hl : lv_has ls 4 [(0, .ref (aG G 10)), (1, .int v1), (2, .int v2), (3, .int v3)]) (hf : f_Pl_isBy N 10 τ v1 v2 v3 = some (r, υ)) : WI l G (rmG 1 20) p e s m args below meth c r υ H locs (F0 m 0 ls []) := by
  have hx := X.hx
  have hb := X.hb
  unfold f_Pl_isBy at hf
  refine lv_aload_n hx hb dX6_isBy_0 rfl (lv_at hl 0 rfl) ?_
  refine g_get X hH (fa_10_0 G) tw_100 dX6_isBy_1 ?_
  refine g_getN X hH (fa_11_0 G) 24 rfl dX6_isBy_4 ?_
  refine lv_iload_n hx hb dX6_isBy_7 rfl (lv_at hl 2 rfl) ?_
  obtain ⟨g1, hf⟩ := e_g hf
  refine a_ld X hH (aa_12 G) g1 dX6_isBy_8 ?_
  refine lv_iload_n hx hb dX6_isBy_9 rfl (lv_at hl 1 rfl) ?_
  obtain ⟨r2, τ3, hc4, hf⟩ := e_b hf
  refine c_SNi X hH (n := 1) (As := [.int _]) (rest := [.int _]) (c_WP_firstOf l G (N := N) hc4) tw_360 14 rfl tw_359 tw_1 (by decide +kernel) ⟨by decide, by decide⟩ rfl hl.1 rfl (Nat.le_of_ble_eq_true rfl) ⟨Nat.zero_le _, Nat.zero_le _⟩ dX6_isBy_10 (fun H locs hH => ?_)
  refine lv_icmp_ne (tgt := 36) hx hb dX6_isBy_13 (by decide) (fun c5 => ?_) (fun c5 => ?_)
  · have hf := e_f c5 hf
    refine lv_iconst (v := 0) hx hb dX6_isBy_36 (by decide) ?_
    exact r_z X hH rfl hf dX6_isBy_37
  · have hf := e_t c5 hf
    refine lv_aload_n hx hb dX6_isBy_16 rfl (lv_at hl 0 rfl) ?_
    refine g_get X hH (fa_10_0 G) tw_100 dX6_isBy_17 ?_
    refine g_getN X hH (fa_11_0 G) 24 rfl dX6_isBy_20 ?_
    refine lv_iload_n hx hb dX6_isBy_23 rfl (lv_at hl 3 rfl) ?_
    obtain ⟨g6, hf⟩ := e_g hf
    refine a_ld X hH (aa_12 G) g6 dX6_isBy_24 ?_
    refine lv_iload_n hx hb dX6_isBy_25 rfl (lv_at hl 1 rfl) ?_
    obtain ⟨r7, τ8, hc9, hf⟩ := e_b hf
    refine c_SNi X hH (n := 1) (As := [.int _]) (rest := [.int _]) (c_WP_secondOf l G (N := N) hc9) tw_362 15 rfl tw_361 tw_1 (by decide +kernel) ⟨by decide, by decide⟩ rfl hl.1 rfl (Nat.le_of_ble_eq_true rfl) ⟨Nat.zero_le _, Nat.zero_le _⟩ dX6_isBy_26 (fun H locs hH => ?_)
    refine lv_icmp_ne (tgt := 36) hx hb dX6_isBy_29 (by decide) (fun c10 => ?_) (fun c10 => ?_)
    · have hf := e_f c10 hf
      refine lv_iconst (v := 0) hx hb dX6_isBy_36 (by decide) ?_
      exact r_z X hH rfl hf dX6_isBy_37
    · have hf := e_t c10 hf
      refine lv_iconst (v := 1) hx hb dX6_isBy_32 (by decide) ?_
      refine lv_goto (tgt := 37) hx hb dX6_isBy_33 (by decide) ?_
      exact r_z X hH rfl hf dX6_isBy_37
theorem c_Pl_isBy_10 (l : Launch) (G : GT) {N : Nat} {τ υ : Hp} {v1 v2 v3 : Int32} {r : Int32} (hf : f_Pl_isBy N 10 τ v1 v2 v3 = some (r, υ)) : MI l G yX6_isBy cX6_isBy 4 (some .boolean) 1 20 [.ref (aG G 10), .int v1, .int v2, .int v3] τ r υ := mk_I (by decide) (Nat.le_of_ble_eq_true rfl) (fun p e s m args below meth c X hH ls hl => b_Pl_isBy_10_0 (N := N) X hH (lv_sub hl [0, 1, 2, 3] rfl) hf)
set_option maxHeartbeats 4000000 in
set_option maxRecDepth 100000 in
theorem b_Pl_isNeedBy_10_0 {l : Launch} {G : GT} {N : Nat} {p : Program} {e : Env} {s : State} {m : MethodId} {args : Array Value} {below : List Frame} {meth : Method} {c : Code} (X : Cx G p s m args meth c cX6_isNeedBy 4 RX6 (some .boolean)) {r : Int32} {υ : Hp} {τ : Hp} {v1 v2 v3 : Int32} {H : Heap} {locs : List Loc} {ls : Array Slot} (hH : Hs G τ s H locs) (hl : lv_has ls 4 [(0, .ref (aG G 10)), (1, .int v1), (2, .int v2), (3, .int v3)]) (hf : f_Pl_isNeedBy N 10 τ v1 v2 v3 = some (r, υ)) : WI l G (rmG 2 43) p e s m args below meth c r υ H locs (F0 m 0 ls []) := by
  have hx := X.hx
  have hb := X.hb
  unfold f_Pl_isNeedBy at hf
  refine lv_aload_n hx hb dX6_isNeedBy_0 rfl (lv_at hl 0 rfl) ?_
  refine lv_iload_n hx hb dX6_isNeedBy_1 rfl (lv_at hl 1 rfl) ?_
  refine lv_iload_n hx hb dX6_isNeedBy_2 rfl (lv_at hl 2 rfl) ?_
  refine lv_iload_n hx hb dX6_isNeedBy_3 rfl (lv_at hl 3 rfl) ?_
  obtain ⟨r1, τ2, hc3, hf⟩ := e_b hf
  refine c_Vi X hH (k := 10) (n := 3) (As := [.int _, .int _, .int _]) (rest := []) (c_Pl_isBy_10 l G (N := N) hc3) (by decide) rfl rfl tw_386 tw_384 tw_385 tw_764 tw_5 (by decide +kernel) ⟨by decide, by decide⟩ rfl hl.1 rfl (Nat.le_of_ble_eq_true rfl) ⟨Nat.zero_le _, Nat.zero_le _⟩ dX6_isNeedBy_4 (fun H locs hH => ?_)
  refine lv_if_eq (tgt := 37) hx hb dX6_isNeedBy_7 (by decide) (fun c4 => ?_) (fun c4 => ?_)
  · have hf := e_t c4 hf
    refine lv_iconst (v := 0) hx hb dX6_isNeedBy_37 (by decide) ?_
    exact r_z X hH rfl hf dX6_isNeedBy_38
  · have hf := e_f c4 hf
    refine lv_aload_n hx hb dX6_isNeedBy_10 rfl (lv_at hl 0 rfl) ?_
    refine g_get X hH (fa_10_1 G) tw_101 dX6_isNeedBy_11 ?_
    refine g_getN X hH (fa_14_0 G) 33 rfl dX6_isNeedBy_14 ?_
    refine lv_iload_n hx hb dX6_isNeedBy_17 rfl (lv_at hl 2 rfl) ?_
    refine lv_iload_n hx hb dX6_isNeedBy_18 rfl (lv_at hl 3 rfl) ?_
    obtain ⟨r5, τ6, hc7, hf⟩ := e_b hf
    refine c_SNi X hH (n := 2) (As := [.int _, .int _]) (rest := [.ref (aG G 15)]) (c_WP_pairOf l G (N := N) hc7) tw_223 18 rfl tw_222 tw_1 (by decide +kernel) ⟨by decide, by decide⟩ rfl hl.1 rfl (Nat.le_of_ble_eq_true rfl) ⟨Nat.zero_le _, Nat.zero_le _⟩ dX6_isNeedBy_19 (fun H locs hH => ?_)
    obtain ⟨g8, hf⟩ := e_g hf
    refine a_ld X hH (aa_15 G) g8 dX6_isNeedBy_22 ?_
    refine lv_iload_n hx hb dX6_isNeedBy_23 rfl (lv_at hl 1 rfl) ?_
    obtain ⟨r9, τ10, hc11, hf⟩ := e_b hf
    refine c_SNi X hH (n := 1) (As := [.int _]) (rest := [.int _]) (c_WP_doorOf l G (N := N) hc11) tw_364 16 rfl tw_363 tw_1 (by decide +kernel) ⟨by decide, by decide⟩ rfl hl.1 rfl (Nat.le_of_ble_eq_true rfl) ⟨Nat.zero_le _, Nat.zero_le _⟩ dX6_isNeedBy_24 (fun H locs hH => ?_)
    obtain ⟨r12, τ13, hc14, hf⟩ := e_b hf
    refine c_SNi X hH (n := 2) (As := [.int _, .int _]) (rest := []) (c_WP_hasDoor l G (N := N) hc14) tw_237 17 rfl tw_236 tw_1 (by decide +kernel) ⟨by decide, by decide⟩ rfl hl.1 rfl (Nat.le_of_ble_eq_true rfl) ⟨Nat.zero_le _, Nat.zero_le _⟩ dX6_isNeedBy_27 (fun H locs hH => ?_)
    refine lv_if_eq (tgt := 37) hx hb dX6_isNeedBy_30 (by decide) (fun c15 => ?_) (fun c15 => ?_)
    · have hf := e_t c15 hf
      refine lv_iconst (v := 0) hx hb dX6_isNeedBy_37 (by decide) ?_
      exact r_z X hH rfl hf dX6_isNeedBy_38
    · have hf := e_f c15 hf
      refine lv_iconst (v := 1) hx hb dX6_isNeedBy_33 (by decide) ?_
      refine lv_goto (tgt := 38) hx hb dX6_isNeedBy_34 (by decide) ?_
      exact r_z X hH rfl hf dX6_isNeedBy_38
theorem c_Pl_isNeedBy_10 (l : Launch) (G : GT) {N : Nat} {τ υ : Hp} {v1 v2 v3 : Int32} {r : Int32} (hf : f_Pl_isNeedBy N 10 τ v1 v2 v3 = some (r, υ)) : MI l G yX6_isNeedBy cX6_isNeedBy 4 (some .boolean) 2 43 [.ref (aG G 10), .int v1, .int v2, .int v3] τ r υ := mk_I (by decide) (Nat.le_of_ble_eq_true rfl) (fun p e s m args below meth c X hH ls hl => b_Pl_isNeedBy_10_0 (N := N) X hH (lv_sub hl [0, 1, 2, 3] rfl) hf)
set_option maxHeartbeats 4000000 in
set_option maxRecDepth 100000 in
theorem b_Pl_waysBy_10_13b {l : Launch} {G : GT} {N : Nat} {p : Program} {e : Env} {s : State} {m : MethodId} {args : Array Value} {below : List Frame} {meth : Method} {c : Code} (X : Cx G p s m args meth c cX6_waysBy 5 RX6 (some .int)) {r : Int32} {υ : Hp} {k4 : Hp → Int32 → Int32 → Int32 → OR} (hk4 : ∀ (τ : Hp) (v1 v2 v3 : Int32) (H : Heap) (locs : List Loc) (ls : Array Slot), Hs G τ s H locs → lv_has ls 5 [(0, .ref (aG G 10)), (1, .int v1), (2, .int v2), (3, .int v3)] → k4 τ v1 v2 v3 = some (r, υ) → WI l G (rmG 3 66) p e s m args below meth c r υ H locs (F0 m 4 ls [])) {k13 : Hp → Int32 → Int32 → Int32 → Int32 → OR} (hk13 : ∀ (τ : Hp) (v1 v2 v3 v4 : Int32) (H : Heap) (locs : List Loc) (ls : Array Slot), Hs G τ s H locs → lv_has ls 5 [(0, .ref (aG G 10)), (1, .int v1), (2, .int v2), (3, .int v3), (4, .int v4)] → k13 τ v1 v2 v3 v4 = some (r, υ) → WI l G (rmG 3 66) p e s m args below meth c r υ H locs (F0 m 13 ls [])) {τ : Hp} {v1 v2 v3 v4 : Int32} {H : Heap} {locs : List Loc} {ls : Array Slot} (hH : Hs G τ s H locs) (hl : lv_has ls 5 [(0, .ref (aG G 10)), (1, .int v1), (2, .int v2), (3, .int v3), (4, .int v4)]) (hf : f_Pl_waysBy_L13b N 10 k4 k13 τ v1 v2 v3 v4 = some (r, υ)) : WI l G (rmG 3 66) p e s m args below meth c r υ H locs (F0 m 13 ls []) := by
  have hx := X.hx
  have hb := X.hb
  unfold f_Pl_waysBy_L13b at hf
  refine lv_iload hx hb dX6_waysBy_13 (lv_at hl 4 rfl) ?_
  refine lv_bipush (v := 8) hx hb dX6_waysBy_15 (by decide) ?_
  refine lv_icmp_ge (tgt := 40) hx hb dX6_waysBy_17 (by decide) (fun c1 => ?_) (fun c1 => ?_)
  · have hf := e_t c1 hf
    obtain ⟨x2, ex2, hf⟩ := e_l hf
    refine lv_iinc (v := x2) (lv' := [(3, .int x2), (0, .ref (aG G 10)), (1, .int v1), (2, .int v2), (4, .int v4)]) hx hb dX6_waysBy_40 hl (k := 3) rfl (by rw [ex2]; rfl) (by decide) rfl (fun ls hl => ?_)
    refine lv_goto (tgt := 4) hx hb dX6_waysBy_43 (by decide) ?_
    exact hk4 _ _ _ _ _ _ _ hH (lv_sub hl [1, 2, 3, 0] rfl) hf
  · have hf := e_f c1 hf
    refine lv_aload_n hx hb dX6_waysBy_20 rfl (lv_at hl 0 rfl) ?_
    refine lv_iload_n hx hb dX6_waysBy_21 rfl (lv_at hl 1 rfl) ?_
    refine lv_iload_n hx hb dX6_waysBy_22 rfl (lv_at hl 3 rfl) ?_
    refine lv_iload hx hb dX6_waysBy_23 (lv_at hl 4 rfl) ?_
    obtain ⟨r3, τ4, hc5, hf⟩ := e_b hf
    refine c_Vi X hH (k := 10) (n := 3) (As := [.int _, .int _, .int _]) (rest := []) (c_Pl_isNeedBy_10 l G (N := N) hc5) (by decide) rfl rfl tw_383 tw_381 tw_382 tw_763 tw_5 (by decide +kernel) ⟨by decide, by decide⟩ rfl hl.1 rfl (Nat.le_of_ble_eq_true rfl) ⟨Nat.zero_le _, Nat.zero_le _⟩ dX6_waysBy_25 (fun H locs hH => ?_)
    refine lv_if_eq (tgt := 34) hx hb dX6_waysBy_28 (by decide) (fun c6 => ?_) (fun c6 => ?_)
    · have hf := e_t c6 hf
      obtain ⟨x7, ex7, hf⟩ := e_l hf
      refine lv_iinc (v := x7) (lv' := [(4, .int x7), (0, .ref (aG G 10)), (1, .int v1), (2, .int v2), (3, .int v3)]) hx hb dX6_waysBy_34 hl (k := 4) rfl (by rw [ex7]; rfl) (by decide) rfl (fun ls hl => ?_)
      refine lv_goto (tgt := 13) hx hb dX6_waysBy_37 (by decide) ?_
      exact hk13 _ _ _ _ _ _ _ _ hH (lv_sub hl [1, 2, 3, 4, 0] rfl) hf
    · have hf := e_f c6 hf
      obtain ⟨x8, ex8, hf⟩ := e_l hf
      refine lv_iinc (v := x8) (lv' := [(2, .int x8), (0, .ref (aG G 10)), (1, .int v1), (3, .int v3), (4, .int v4)]) hx hb dX6_waysBy_31 hl (k := 2) rfl (by rw [ex8]; rfl) (by decide) rfl (fun ls hl => ?_)
      obtain ⟨x9, ex9, hf⟩ := e_l hf
      refine lv_iinc (v := x9) (lv' := [(4, .int x9), (2, .int x8), (0, .ref (aG G 10)), (1, .int v1), (3, .int v3)]) hx hb dX6_waysBy_34 hl (k := 4) rfl (by rw [ex9]; rfl) (by decide) rfl (fun ls hl => ?_)
      refine lv_goto (tgt := 13) hx hb dX6_waysBy_37 (by decide) ?_
      exact hk13 _ _ _ _ _ _ _ _ hH (lv_sub hl [2, 3, 1, 4, 0] rfl) hf
theorem b_Pl_waysBy_10_13 {l : Launch} {G : GT} {N : Nat} {p : Program} {e : Env} {s : State} {m : MethodId} {args : Array Value} {below : List Frame} {meth : Method} {c : Code} (X : Cx G p s m args meth c cX6_waysBy 5 RX6 (some .int)) {r : Int32} {υ : Hp} {k4 : Hp → Int32 → Int32 → Int32 → OR} (hk4 : ∀ (τ : Hp) (v1 v2 v3 : Int32) (H : Heap) (locs : List Loc) (ls : Array Slot), Hs G τ s H locs → lv_has ls 5 [(0, .ref (aG G 10)), (1, .int v1), (2, .int v2), (3, .int v3)] → k4 τ v1 v2 v3 = some (r, υ) → WI l G (rmG 3 66) p e s m args below meth c r υ H locs (F0 m 4 ls [])) : ∀ (n : Nat) (τ : Hp) (v1 v2 v3 v4 : Int32) (H : Heap) (locs : List Loc) (ls : Array Slot), Hs G τ s H locs → lv_has ls 5 [(0, .ref (aG G 10)), (1, .int v1), (2, .int v2), (3, .int v3), (4, .int v4)] → f_Pl_waysBy_L13 N 10 k4 n τ v1 v2 v3 v4 = some (r, υ) → WI l G (rmG 3 66) p e s m args below meth c r υ H locs (F0 m 13 ls []) := by
  intro n
  induction n with
  | zero => intro τ v1 v2 v3 v4 H locs ls hH hl hf; exact nomatch (show (none : OR) = some (r, υ) from hf)
  | succ n ih => intro τ v1 v2 v3 v4 H locs ls hH hl hf; exact b_Pl_waysBy_10_13b (N := N) X hk4 ih hH hl hf
set_option maxHeartbeats 4000000 in
set_option maxRecDepth 100000 in
theorem b_Pl_waysBy_10_4b {l : Launch} {G : GT} {N : Nat} {p : Program} {e : Env} {s : State} {m : MethodId} {args : Array Value} {below : List Frame} {meth : Method} {c : Code} (X : Cx G p s m args meth c cX6_waysBy 5 RX6 (some .int)) {r : Int32} {υ : Hp} {k4 : Hp → Int32 → Int32 → Int32 → OR} (hk4 : ∀ (τ : Hp) (v1 v2 v3 : Int32) (H : Heap) (locs : List Loc) (ls : Array Slot), Hs G τ s H locs → lv_has ls 5 [(0, .ref (aG G 10)), (1, .int v1), (2, .int v2), (3, .int v3)] → k4 τ v1 v2 v3 = some (r, υ) → WI l G (rmG 3 66) p e s m args below meth c r υ H locs (F0 m 4 ls [])) {τ : Hp} {v1 v2 v3 : Int32} {H : Heap} {locs : List Loc} {ls : Array Slot} (hH : Hs G τ s H locs) (hl : lv_has ls 5 [(0, .ref (aG G 10)), (1, .int v1), (2, .int v2), (3, .int v3)]) (hf : f_Pl_waysBy_L4b N 10 k4 τ v1 v2 v3 = some (r, υ)) : WI l G (rmG 3 66) p e s m args below meth c r υ H locs (F0 m 4 ls []) := by
  have hx := X.hx
  have hb := X.hb
  unfold f_Pl_waysBy_L4b at hf
  refine lv_iload_n hx hb dX6_waysBy_4 rfl (lv_at hl 3 rfl) ?_
  refine lv_bipush (v := 8) hx hb dX6_waysBy_5 (by decide) ?_
  refine lv_icmp_ge (tgt := 46) hx hb dX6_waysBy_7 (by decide) (fun c1 => ?_) (fun c1 => ?_)
  · have hf := e_t c1 hf
    refine lv_iload_n hx hb dX6_waysBy_46 rfl (lv_at hl 2 rfl) ?_
    exact r_i X hH hf dX6_waysBy_47
  · have hf := e_f c1 hf
    refine lv_iconst (v := 0) hx hb dX6_waysBy_10 (by decide) ?_
    refine lv_istore (lv' := [(4, .int 0), (0, .ref (aG G 10)), (1, .int v1), (2, .int v2), (3, .int v3)]) hx hb dX6_waysBy_11 hl (by decide) rfl (fun ls hl => ?_)
    exact b_Pl_waysBy_10_13 (N := N) X hk4 _ _ _ _ _ _ _ _ _ hH (lv_sub hl [1, 2, 3, 4, 0] rfl) hf
theorem b_Pl_waysBy_10_4 {l : Launch} {G : GT} {N : Nat} {p : Program} {e : Env} {s : State} {m : MethodId} {args : Array Value} {below : List Frame} {meth : Method} {c : Code} (X : Cx G p s m args meth c cX6_waysBy 5 RX6 (some .int)) {r : Int32} {υ : Hp} : ∀ (n : Nat) (τ : Hp) (v1 v2 v3 : Int32) (H : Heap) (locs : List Loc) (ls : Array Slot), Hs G τ s H locs → lv_has ls 5 [(0, .ref (aG G 10)), (1, .int v1), (2, .int v2), (3, .int v3)] → f_Pl_waysBy_L4 N 10 n τ v1 v2 v3 = some (r, υ) → WI l G (rmG 3 66) p e s m args below meth c r υ H locs (F0 m 4 ls []) := by
  intro n
  induction n with
  | zero => intro τ v1 v2 v3 H locs ls hH hl hf; exact nomatch (show (none : OR) = some (r, υ) from hf)
  | succ n ih => intro τ v1 v2 v3 H locs ls hH hl hf; exact b_Pl_waysBy_10_4b (N := N) X ih hH hl hf
set_option maxHeartbeats 4000000 in
set_option maxRecDepth 100000 in
theorem b_Pl_waysBy_10_0 {l : Launch} {G : GT} {N : Nat} {p : Program} {e : Env} {s : State} {m : MethodId} {args : Array Value} {below : List Frame} {meth : Method} {c : Code} (X : Cx G p s m args meth c cX6_waysBy 5 RX6 (some .int)) {r : Int32} {υ : Hp} {τ : Hp} {v1 : Int32} {H : Heap} {locs : List Loc} {ls : Array Slot} (hH : Hs G τ s H locs) (hl : lv_has ls 5 [(0, .ref (aG G 10)), (1, .int v1)]) (hf : f_Pl_waysBy N 10 τ v1 = some (r, υ)) : WI l G (rmG 3 66) p e s m args below meth c r υ H locs (F0 m 0 ls []) := by
  have hx := X.hx
  have hb := X.hb
  unfold f_Pl_waysBy at hf
  refine lv_iconst (v := 0) hx hb dX6_waysBy_0 (by decide) ?_
  refine lv_istore_n (lv' := [(2, .int 0), (0, .ref (aG G 10)), (1, .int v1)]) hx hb dX6_waysBy_1 rfl hl (by decide) rfl (fun ls hl => ?_)
  refine lv_iconst (v := 0) hx hb dX6_waysBy_2 (by decide) ?_
  refine lv_istore_n (lv' := [(3, .int 0), (2, .int 0), (0, .ref (aG G 10)), (1, .int v1)]) hx hb dX6_waysBy_3 rfl hl (by decide) rfl (fun ls hl => ?_)
  exact b_Pl_waysBy_10_4 (N := N) X _ _ _ _ _ _ _ _ hH (lv_sub hl [2, 3, 1, 0] rfl) hf
theorem c_Pl_waysBy_10 (l : Launch) (G : GT) {N : Nat} {τ υ : Hp} {v1 : Int32} {r : Int32} (hf : f_Pl_waysBy N 10 τ v1 = some (r, υ)) : MI l G yX6_waysBy cX6_waysBy 5 (some .int) 3 66 [.ref (aG G 10), .int v1] τ r υ := mk_I (by decide) (Nat.le_of_ble_eq_true rfl) (fun p e s m args below meth c X hH ls hl => b_Pl_waysBy_10_0 (N := N) X hH (lv_sub hl [0, 1] rfl) hf)
set_option maxHeartbeats 4000000 in
set_option maxRecDepth 100000 in
theorem b_Pl_weightBy_10_15b {l : Launch} {G : GT} {N : Nat} {p : Program} {e : Env} {s : State} {m : MethodId} {args : Array Value} {below : List Frame} {meth : Method} {c : Code} (X : Cx G p s m args meth c cX6_weightBy 6 RX6 (some .int)) {r : Int32} {υ : Hp} {k5 : Hp → Int32 → Int32 → Int32 → Int32 → OR} (hk5 : ∀ (τ : Hp) (v1 v2 v3 v4 : Int32) (H : Heap) (locs : List Loc) (ls : Array Slot), Hs G τ s H locs → lv_has ls 6 [(0, .ref (aG G 10)), (1, .int v1), (2, .int v2), (3, .int v3), (4, .int v4)] → k5 τ v1 v2 v3 v4 = some (r, υ) → WI l G (rmG 3 66) p e s m args below meth c r υ H locs (F0 m 5 ls [])) {k15 : Hp → Int32 → Int32 → Int32 → Int32 → Int32 → OR} (hk15 : ∀ (τ : Hp) (v1 v2 v3 v4 v5 : Int32) (H : Heap) (locs : List Loc) (ls : Array Slot), Hs G τ s H locs → lv_has ls 6 [(0, .ref (aG G 10)), (1, .int v1), (2, .int v2), (3, .int v3), (4, .int v4), (5, .int v5)] → k15 τ v1 v2 v3 v4 v5 = some (r, υ) → WI l G (rmG 3 66) p e s m args below meth c r υ H locs (F0 m 15 ls [])) {τ : Hp} {v1 v2 v3 v4 v5 : Int32} {H : Heap} {locs : List Loc} {ls : Array Slot} (hH : Hs G τ s H locs) (hl : lv_has ls 6 [(0, .ref (aG G 10)), (1, .int v1), (2, .int v2), (3, .int v3), (4, .int v4), (5, .int v5)]) (hf : f_Pl_weightBy_L15b N 10 k5 k15 τ v1 v2 v3 v4 v5 = some (r, υ)) : WI l G (rmG 3 66) p e s m args below meth c r υ H locs (F0 m 15 ls []) := by
  have hx := X.hx
  have hb := X.hb
  unfold f_Pl_weightBy_L15b at hf
  refine lv_iload hx hb dX6_weightBy_15 (lv_at hl 5 rfl) ?_
  refine lv_bipush (v := 8) hx hb dX6_weightBy_17 (by decide) ?_
  refine lv_icmp_ge (tgt := 66) hx hb dX6_weightBy_19 (by decide) (fun c1 => ?_) (fun c1 => ?_)
  · have hf := e_t c1 hf
    obtain ⟨x2, ex2, hf⟩ := e_l hf
    refine lv_iinc (v := x2) (lv' := [(4, .int x2), (0, .ref (aG G 10)), (1, .int v1), (2, .int v2), (3, .int v3), (5, .int v5)]) hx hb dX6_weightBy_66 hl (k := 4) rfl (by rw [ex2]; rfl) (by decide) rfl (fun ls hl => ?_)
    refine lv_goto (tgt := 5) hx hb dX6_weightBy_69 (by decide) ?_
    exact hk5 _ _ _ _ _ _ _ _ hH (lv_sub hl [1, 2, 3, 4, 0] rfl) hf
  · have hf := e_f c1 hf
    refine lv_aload_n hx hb dX6_weightBy_22 rfl (lv_at hl 0 rfl) ?_
    refine lv_iload_n hx hb dX6_weightBy_23 rfl (lv_at hl 1 rfl) ?_
    refine lv_iload hx hb dX6_weightBy_24 (lv_at hl 4 rfl) ?_
    refine lv_iload hx hb dX6_weightBy_26 (lv_at hl 5 rfl) ?_
    obtain ⟨r3, τ4, hc5, hf⟩ := e_b hf
    refine c_Vi X hH (k := 10) (n := 3) (As := [.int _, .int _, .int _]) (rest := []) (c_Pl_isNeedBy_10 l G (N := N) hc5) (by decide) rfl rfl tw_383 tw_381 tw_382 tw_763 tw_5 (by decide +kernel) ⟨by decide, by decide⟩ rfl hl.1 rfl (Nat.le_of_ble_eq_true rfl) ⟨Nat.zero_le _, Nat.zero_le _⟩ dX6_weightBy_28 (fun H locs hH => ?_)
    refine lv_if_eq (tgt := 60) hx hb dX6_weightBy_31 (by decide) (fun c6 => ?_) (fun c6 => ?_)
    · have hf := e_t c6 hf
      obtain ⟨x7, ex7, hf⟩ := e_l hf
      refine lv_iinc (v := x7) (lv' := [(5, .int x7), (0, .ref (aG G 10)), (1, .int v1), (2, .int v2), (3, .int v3), (4, .int v4)]) hx hb dX6_weightBy_60 hl (k := 5) rfl (by rw [ex7]; rfl) (by decide) rfl (fun ls hl => ?_)
      refine lv_goto (tgt := 15) hx hb dX6_weightBy_63 (by decide) ?_
      exact hk15 _ _ _ _ _ _ _ _ _ hH (lv_sub hl [1, 2, 3, 4, 5, 0] rfl) hf
    · have hf := e_f c6 hf
      refine lv_iload_n hx hb dX6_weightBy_34 rfl (lv_at hl 3 rfl) ?_
      refine lv_iload_n hx hb dX6_weightBy_35 rfl (lv_at hl 2 rfl) ?_
      refine lv_aload_n hx hb dX6_weightBy_36 rfl (lv_at hl 0 rfl) ?_
      refine g_get X hH (fa_10_1 G) tw_101 dX6_weightBy_37 ?_
      refine g_getN X hH (fa_14_1 G) 35 rfl dX6_weightBy_40 ?_
      refine lv_iload hx hb dX6_weightBy_43 (lv_at hl 4 rfl) ?_
      refine lv_iload hx hb dX6_weightBy_45 (lv_at hl 5 rfl) ?_
      refine lv_iload_n hx hb dX6_weightBy_47 rfl (lv_at hl 1 rfl) ?_
      obtain ⟨r8, τ9, hc10, hf⟩ := e_b hf
      refine c_SNi X hH (n := 1) (As := [.int _]) (rest := [.int _, .int _, .ref (aG G 16), .int _, .int _]) (c_WP_doorOf l G (N := N) hc10) tw_364 16 rfl tw_363 tw_1 (by decide +kernel) ⟨by decide, by decide⟩ rfl hl.1 rfl (Nat.le_of_ble_eq_true rfl) ⟨Nat.zero_le _, Nat.zero_le _⟩ dX6_weightBy_48 (fun H locs hH => ?_)
      obtain ⟨r11, τ12, hc13, hf⟩ := e_b hf
      refine c_SNi X hH (n := 3) (As := [.int _, .int _, .int _]) (rest := [.ref (aG G 16), .int _, .int _]) (c_WP_wayOf l G (N := N) hc13) tw_220 19 rfl tw_219 tw_1 (by decide +kernel) ⟨by decide, by decide⟩ rfl hl.1 rfl (Nat.le_of_ble_eq_true rfl) ⟨Nat.zero_le _, Nat.zero_le _⟩ dX6_weightBy_51 (fun H locs hH => ?_)
      obtain ⟨g14, hf⟩ := e_g hf
      refine a_ld X hH (aa_16 G) g14 dX6_weightBy_54 ?_
      refine g_max X hl.1.symm tw_391 tw_338 tw_16 tw_339 (by decide) (Nat.le_of_ble_eq_true rfl) ⟨Nat.zero_le _, Nat.zero_le _⟩ dX6_weightBy_55 ?_
      refine lv_iadd hx hb dX6_weightBy_58 ?_
      obtain ⟨x15, ex15, hf⟩ := e_l hf
      refine g_nm ex15 ?_
      refine lv_istore_n (lv' := [(3, .int x15), (0, .ref (aG G 10)), (1, .int v1), (2, .int v2), (4, .int v4), (5, .int v5)]) hx hb dX6_weightBy_59 rfl hl (by decide) rfl (fun ls hl => ?_)
      obtain ⟨x16, ex16, hf⟩ := e_l hf
      refine lv_iinc (v := x16) (lv' := [(5, .int x16), (3, .int x15), (0, .ref (aG G 10)), (1, .int v1), (2, .int v2), (4, .int v4)]) hx hb dX6_weightBy_60 hl (k := 5) rfl (by rw [ex16]; rfl) (by decide) rfl (fun ls hl => ?_)
      refine lv_goto (tgt := 15) hx hb dX6_weightBy_63 (by decide) ?_
      exact hk15 _ _ _ _ _ _ _ _ _ hH (lv_sub hl [2, 3, 4, 1, 5, 0] rfl) hf
theorem b_Pl_weightBy_10_15 {l : Launch} {G : GT} {N : Nat} {p : Program} {e : Env} {s : State} {m : MethodId} {args : Array Value} {below : List Frame} {meth : Method} {c : Code} (X : Cx G p s m args meth c cX6_weightBy 6 RX6 (some .int)) {r : Int32} {υ : Hp} {k5 : Hp → Int32 → Int32 → Int32 → Int32 → OR} (hk5 : ∀ (τ : Hp) (v1 v2 v3 v4 : Int32) (H : Heap) (locs : List Loc) (ls : Array Slot), Hs G τ s H locs → lv_has ls 6 [(0, .ref (aG G 10)), (1, .int v1), (2, .int v2), (3, .int v3), (4, .int v4)] → k5 τ v1 v2 v3 v4 = some (r, υ) → WI l G (rmG 3 66) p e s m args below meth c r υ H locs (F0 m 5 ls [])) : ∀ (n : Nat) (τ : Hp) (v1 v2 v3 v4 v5 : Int32) (H : Heap) (locs : List Loc) (ls : Array Slot), Hs G τ s H locs → lv_has ls 6 [(0, .ref (aG G 10)), (1, .int v1), (2, .int v2), (3, .int v3), (4, .int v4), (5, .int v5)] → f_Pl_weightBy_L15 N 10 k5 n τ v1 v2 v3 v4 v5 = some (r, υ) → WI l G (rmG 3 66) p e s m args below meth c r υ H locs (F0 m 15 ls []) := by
  intro n
  induction n with
  | zero => intro τ v1 v2 v3 v4 v5 H locs ls hH hl hf; exact nomatch (show (none : OR) = some (r, υ) from hf)
  | succ n ih => intro τ v1 v2 v3 v4 v5 H locs ls hH hl hf; exact b_Pl_weightBy_10_15b (N := N) X hk5 ih hH hl hf
set_option maxHeartbeats 4000000 in
set_option maxRecDepth 100000 in
theorem b_Pl_weightBy_10_5b {l : Launch} {G : GT} {N : Nat} {p : Program} {e : Env} {s : State} {m : MethodId} {args : Array Value} {below : List Frame} {meth : Method} {c : Code} (X : Cx G p s m args meth c cX6_weightBy 6 RX6 (some .int)) {r : Int32} {υ : Hp} {k5 : Hp → Int32 → Int32 → Int32 → Int32 → OR} (hk5 : ∀ (τ : Hp) (v1 v2 v3 v4 : Int32) (H : Heap) (locs : List Loc) (ls : Array Slot), Hs G τ s H locs → lv_has ls 6 [(0, .ref (aG G 10)), (1, .int v1), (2, .int v2), (3, .int v3), (4, .int v4)] → k5 τ v1 v2 v3 v4 = some (r, υ) → WI l G (rmG 3 66) p e s m args below meth c r υ H locs (F0 m 5 ls [])) {τ : Hp} {v1 v2 v3 v4 : Int32} {H : Heap} {locs : List Loc} {ls : Array Slot} (hH : Hs G τ s H locs) (hl : lv_has ls 6 [(0, .ref (aG G 10)), (1, .int v1), (2, .int v2), (3, .int v3), (4, .int v4)]) (hf : f_Pl_weightBy_L5b N 10 k5 τ v1 v2 v3 v4 = some (r, υ)) : WI l G (rmG 3 66) p e s m args below meth c r υ H locs (F0 m 5 ls []) := by
  have hx := X.hx
  have hb := X.hb
  unfold f_Pl_weightBy_L5b at hf
  refine lv_iload hx hb dX6_weightBy_5 (lv_at hl 4 rfl) ?_
  refine lv_bipush (v := 8) hx hb dX6_weightBy_7 (by decide) ?_
  refine lv_icmp_ge (tgt := 72) hx hb dX6_weightBy_9 (by decide) (fun c1 => ?_) (fun c1 => ?_)
  · have hf := e_t c1 hf
    refine lv_iload_n hx hb dX6_weightBy_72 rfl (lv_at hl 3 rfl) ?_
    exact r_i X hH hf dX6_weightBy_73
  · have hf := e_f c1 hf
    refine lv_iconst (v := 0) hx hb dX6_weightBy_12 (by decide) ?_
    refine lv_istore (lv' := [(5, .int 0), (0, .ref (aG G 10)), (1, .int v1), (2, .int v2), (3, .int v3), (4, .int v4)]) hx hb dX6_weightBy_13 hl (by decide) rfl (fun ls hl => ?_)
    exact b_Pl_weightBy_10_15 (N := N) X hk5 _ _ _ _ _ _ _ _ _ _ hH (lv_sub hl [1, 2, 3, 4, 5, 0] rfl) hf
theorem b_Pl_weightBy_10_5 {l : Launch} {G : GT} {N : Nat} {p : Program} {e : Env} {s : State} {m : MethodId} {args : Array Value} {below : List Frame} {meth : Method} {c : Code} (X : Cx G p s m args meth c cX6_weightBy 6 RX6 (some .int)) {r : Int32} {υ : Hp} : ∀ (n : Nat) (τ : Hp) (v1 v2 v3 v4 : Int32) (H : Heap) (locs : List Loc) (ls : Array Slot), Hs G τ s H locs → lv_has ls 6 [(0, .ref (aG G 10)), (1, .int v1), (2, .int v2), (3, .int v3), (4, .int v4)] → f_Pl_weightBy_L5 N 10 n τ v1 v2 v3 v4 = some (r, υ) → WI l G (rmG 3 66) p e s m args below meth c r υ H locs (F0 m 5 ls []) := by
  intro n
  induction n with
  | zero => intro τ v1 v2 v3 v4 H locs ls hH hl hf; exact nomatch (show (none : OR) = some (r, υ) from hf)
  | succ n ih => intro τ v1 v2 v3 v4 H locs ls hH hl hf; exact b_Pl_weightBy_10_5b (N := N) X ih hH hl hf
set_option maxHeartbeats 4000000 in
set_option maxRecDepth 100000 in
theorem b_Pl_weightBy_10_0 {l : Launch} {G : GT} {N : Nat} {p : Program} {e : Env} {s : State} {m : MethodId} {args : Array Value} {below : List Frame} {meth : Method} {c : Code} (X : Cx G p s m args meth c cX6_weightBy 6 RX6 (some .int)) {r : Int32} {υ : Hp} {τ : Hp} {v1 v2 : Int32} {H : Heap} {locs : List Loc} {ls : Array Slot} (hH : Hs G τ s H locs) (hl : lv_has ls 6 [(0, .ref (aG G 10)), (1, .int v1), (2, .int v2)]) (hf : f_Pl_weightBy N 10 τ v1 v2 = some (r, υ)) : WI l G (rmG 3 66) p e s m args below meth c r υ H locs (F0 m 0 ls []) := by
  have hx := X.hx
  have hb := X.hb
  unfold f_Pl_weightBy at hf
  refine lv_iconst (v := 0) hx hb dX6_weightBy_0 (by decide) ?_
  refine lv_istore_n (lv' := [(3, .int 0), (0, .ref (aG G 10)), (1, .int v1), (2, .int v2)]) hx hb dX6_weightBy_1 rfl hl (by decide) rfl (fun ls hl => ?_)
  refine lv_iconst (v := 0) hx hb dX6_weightBy_2 (by decide) ?_
  refine lv_istore (lv' := [(4, .int 0), (3, .int 0), (0, .ref (aG G 10)), (1, .int v1), (2, .int v2)]) hx hb dX6_weightBy_3 hl (by decide) rfl (fun ls hl => ?_)
  exact b_Pl_weightBy_10_5 (N := N) X _ _ _ _ _ _ _ _ _ hH (lv_sub hl [2, 3, 4, 1, 0] rfl) hf
theorem c_Pl_weightBy_10 (l : Launch) (G : GT) {N : Nat} {τ υ : Hp} {v1 v2 : Int32} {r : Int32} (hf : f_Pl_weightBy N 10 τ v1 v2 = some (r, υ)) : MI l G yX6_weightBy cX6_weightBy 6 (some .int) 3 66 [.ref (aG G 10), .int v1, .int v2] τ r υ := mk_I (by decide) (Nat.le_of_ble_eq_true rfl) (fun p e s m args below meth c X hH ls hl => b_Pl_weightBy_10_0 (N := N) X hH (lv_sub hl [0, 1, 2] rfl) hf)
set_option maxHeartbeats 4000000 in
set_option maxRecDepth 100000 in
theorem b_Pl_isMustBy_10_3_11b {l : Launch} {G : GT} {N : Nat} {p : Program} {e : Env} {s : State} {m : MethodId} {args : Array Value} {below : List Frame} {meth : Method} {c : Code} (X : Cx G p s m args meth c cX6_isMustBy 5 RX6 (some .boolean)) {r : Int32} {υ : Hp} {k2 : Hp → Int32 → Int32 → OR} (hk2 : ∀ (τ : Hp) (v1 v3 : Int32) (H : Heap) (locs : List Loc) (ls : Array Slot), Hs G τ s H locs → lv_has ls 5 [(0, .ref (aG G 10)), (1, .int v1), (2, .ref (aG G 3)), (3, .int v3)] → k2 τ v1 v3 = some (r, υ) → WI l G (rmG 2 43) p e s m args below meth c r υ H locs (F0 m 2 ls [])) {k11 : Hp → Int32 → Int32 → Int32 → OR} (hk11 : ∀ (τ : Hp) (v1 v3 v4 : Int32) (H : Heap) (locs : List Loc) (ls : Array Slot), Hs G τ s H locs → lv_has ls 5 [(0, .ref (aG G 10)), (1, .int v1), (2, .ref (aG G 3)), (3, .int v3), (4, .int v4)] → k11 τ v1 v3 v4 = some (r, υ) → WI l G (rmG 2 43) p e s m args below meth c r υ H locs (F0 m 11 ls [])) {τ : Hp} {v1 v3 v4 : Int32} {H : Heap} {locs : List Loc} {ls : Array Slot} (hH : Hs G τ s H locs) (hl : lv_has ls 5 [(0, .ref (aG G 10)), (1, .int v1), (2, .ref (aG G 3)), (3, .int v3), (4, .int v4)]) (hf : f_Pl_isMustBy_L11b N 10 3 k2 k11 τ v1 v3 v4 = some (r, υ)) : WI l G (rmG 2 43) p e s m args below meth c r υ H locs (F0 m 11 ls []) := by
  have hx := X.hx
  have hb := X.hb
  unfold f_Pl_isMustBy_L11b at hf
  refine lv_iload hx hb dX6_isMustBy_11 (lv_at hl 4 rfl) ?_
  refine lv_bipush (v := 8) hx hb dX6_isMustBy_13 (by decide) ?_
  refine lv_icmp_ge (tgt := 55) hx hb dX6_isMustBy_15 (by decide) (fun c1 => ?_) (fun c1 => ?_)
  · have hf := e_t c1 hf
    obtain ⟨x2, ex2, hf⟩ := e_l hf
    refine lv_iinc (v := x2) (lv' := [(3, .int x2), (0, .ref (aG G 10)), (1, .int v1), (2, .ref (aG G 3)), (4, .int v4)]) hx hb dX6_isMustBy_55 hl (k := 3) rfl (by rw [ex2]; rfl) (by decide) rfl (fun ls hl => ?_)
    refine lv_goto (tgt := 2) hx hb dX6_isMustBy_58 (by decide) ?_
    exact hk2 _ _ _ _ _ _ hH (lv_sub hl [1, 2, 3, 0] rfl) hf
  · have hf := e_f c1 hf
    refine lv_aload_n hx hb dX6_isMustBy_18 rfl (lv_at hl 0 rfl) ?_
    refine lv_iload_n hx hb dX6_isMustBy_19 rfl (lv_at hl 1 rfl) ?_
    refine lv_iload_n hx hb dX6_isMustBy_20 rfl (lv_at hl 3 rfl) ?_
    refine lv_iload hx hb dX6_isMustBy_21 (lv_at hl 4 rfl) ?_
    obtain ⟨r3, τ4, hc5, hf⟩ := e_b hf
    refine c_Vi X hH (k := 10) (n := 3) (As := [.int _, .int _, .int _]) (rest := []) (c_Pl_isBy_10 l G (N := N) hc5) (by decide) rfl rfl tw_386 tw_384 tw_385 tw_764 tw_5 (by decide +kernel) ⟨by decide, by decide⟩ rfl hl.1 rfl (Nat.le_of_ble_eq_true rfl) ⟨Nat.zero_le _, Nat.zero_le _⟩ dX6_isMustBy_23 (fun H locs hH => ?_)
    refine lv_if_eq (tgt := 49) hx hb dX6_isMustBy_26 (by decide) (fun c6 => ?_) (fun c6 => ?_)
    · have hf := e_t c6 hf
      obtain ⟨x7, ex7, hf⟩ := e_l hf
      refine lv_iinc (v := x7) (lv' := [(4, .int x7), (0, .ref (aG G 10)), (1, .int v1), (2, .ref (aG G 3)), (3, .int v3)]) hx hb dX6_isMustBy_49 hl (k := 4) rfl (by rw [ex7]; rfl) (by decide) rfl (fun ls hl => ?_)
      refine lv_goto (tgt := 11) hx hb dX6_isMustBy_52 (by decide) ?_
      exact hk11 _ _ _ _ _ _ _ hH (lv_sub hl [1, 2, 3, 4, 0] rfl) hf
    · have hf := e_f c6 hf
      refine lv_aload_n hx hb dX6_isMustBy_29 rfl (lv_at hl 2 rfl) ?_
      refine lv_iload_n hx hb dX6_isMustBy_30 rfl (lv_at hl 3 rfl) ?_
      refine lv_iload hx hb dX6_isMustBy_31 (lv_at hl 4 rfl) ?_
      obtain ⟨r8, τ9, hc10, hf⟩ := e_b hf
      refine c_SNi X hH (n := 2) (As := [.int _, .int _]) (rest := [.ref (aG G 3)]) (c_WP_pairOf l G (N := N) hc10) tw_223 18 rfl tw_222 tw_1 (by decide +kernel) ⟨by decide, by decide⟩ rfl hl.1 rfl (Nat.le_of_ble_eq_true rfl) ⟨Nat.zero_le _, Nat.zero_le _⟩ dX6_isMustBy_33 (fun H locs hH => ?_)
      obtain ⟨g11, hf⟩ := e_g hf
      refine a_ld X hH (aa_3 G) g11 dX6_isMustBy_36 ?_
      refine lv_iload_n hx hb dX6_isMustBy_37 rfl (lv_at hl 1 rfl) ?_
      obtain ⟨r12, τ13, hc14, hf⟩ := e_b hf
      refine c_SNi X hH (n := 1) (As := [.int _]) (rest := [.int _]) (c_WP_doorOf l G (N := N) hc14) tw_364 16 rfl tw_363 tw_1 (by decide +kernel) ⟨by decide, by decide⟩ rfl hl.1 rfl (Nat.le_of_ble_eq_true rfl) ⟨Nat.zero_le _, Nat.zero_le _⟩ dX6_isMustBy_38 (fun H locs hH => ?_)
      obtain ⟨r15, τ16, hc17, hf⟩ := e_b hf
      refine c_SNi X hH (n := 2) (As := [.int _, .int _]) (rest := []) (c_WP_hasDoor l G (N := N) hc17) tw_237 17 rfl tw_236 tw_1 (by decide +kernel) ⟨by decide, by decide⟩ rfl hl.1 rfl (Nat.le_of_ble_eq_true rfl) ⟨Nat.zero_le _, Nat.zero_le _⟩ dX6_isMustBy_41 (fun H locs hH => ?_)
      refine lv_if_eq (tgt := 49) hx hb dX6_isMustBy_44 (by decide) (fun c18 => ?_) (fun c18 => ?_)
      · have hf := e_t c18 hf
        obtain ⟨x19, ex19, hf⟩ := e_l hf
        refine lv_iinc (v := x19) (lv' := [(4, .int x19), (0, .ref (aG G 10)), (1, .int v1), (2, .ref (aG G 3)), (3, .int v3)]) hx hb dX6_isMustBy_49 hl (k := 4) rfl (by rw [ex19]; rfl) (by decide) rfl (fun ls hl => ?_)
        refine lv_goto (tgt := 11) hx hb dX6_isMustBy_52 (by decide) ?_
        exact hk11 _ _ _ _ _ _ _ hH (lv_sub hl [1, 2, 3, 4, 0] rfl) hf
      · have hf := e_f c18 hf
        refine lv_iconst (v := 1) hx hb dX6_isMustBy_47 (by decide) ?_
        exact r_z X hH rfl hf dX6_isMustBy_48
theorem b_Pl_isMustBy_10_3_11 {l : Launch} {G : GT} {N : Nat} {p : Program} {e : Env} {s : State} {m : MethodId} {args : Array Value} {below : List Frame} {meth : Method} {c : Code} (X : Cx G p s m args meth c cX6_isMustBy 5 RX6 (some .boolean)) {r : Int32} {υ : Hp} {k2 : Hp → Int32 → Int32 → OR} (hk2 : ∀ (τ : Hp) (v1 v3 : Int32) (H : Heap) (locs : List Loc) (ls : Array Slot), Hs G τ s H locs → lv_has ls 5 [(0, .ref (aG G 10)), (1, .int v1), (2, .ref (aG G 3)), (3, .int v3)] → k2 τ v1 v3 = some (r, υ) → WI l G (rmG 2 43) p e s m args below meth c r υ H locs (F0 m 2 ls [])) : ∀ (n : Nat) (τ : Hp) (v1 v3 v4 : Int32) (H : Heap) (locs : List Loc) (ls : Array Slot), Hs G τ s H locs → lv_has ls 5 [(0, .ref (aG G 10)), (1, .int v1), (2, .ref (aG G 3)), (3, .int v3), (4, .int v4)] → f_Pl_isMustBy_L11 N 10 3 k2 n τ v1 v3 v4 = some (r, υ) → WI l G (rmG 2 43) p e s m args below meth c r υ H locs (F0 m 11 ls []) := by
  intro n
  induction n with
  | zero => intro τ v1 v3 v4 H locs ls hH hl hf; exact nomatch (show (none : OR) = some (r, υ) from hf)
  | succ n ih => intro τ v1 v3 v4 H locs ls hH hl hf; exact b_Pl_isMustBy_10_3_11b (N := N) X hk2 ih hH hl hf
set_option maxHeartbeats 4000000 in
set_option maxRecDepth 100000 in
theorem b_Pl_isMustBy_10_3_2b {l : Launch} {G : GT} {N : Nat} {p : Program} {e : Env} {s : State} {m : MethodId} {args : Array Value} {below : List Frame} {meth : Method} {c : Code} (X : Cx G p s m args meth c cX6_isMustBy 5 RX6 (some .boolean)) {r : Int32} {υ : Hp} {k2 : Hp → Int32 → Int32 → OR} (hk2 : ∀ (τ : Hp) (v1 v3 : Int32) (H : Heap) (locs : List Loc) (ls : Array Slot), Hs G τ s H locs → lv_has ls 5 [(0, .ref (aG G 10)), (1, .int v1), (2, .ref (aG G 3)), (3, .int v3)] → k2 τ v1 v3 = some (r, υ) → WI l G (rmG 2 43) p e s m args below meth c r υ H locs (F0 m 2 ls [])) {τ : Hp} {v1 v3 : Int32} {H : Heap} {locs : List Loc} {ls : Array Slot} (hH : Hs G τ s H locs) (hl : lv_has ls 5 [(0, .ref (aG G 10)), (1, .int v1), (2, .ref (aG G 3)), (3, .int v3)]) (hf : f_Pl_isMustBy_L2b N 10 3 k2 τ v1 v3 = some (r, υ)) : WI l G (rmG 2 43) p e s m args below meth c r υ H locs (F0 m 2 ls []) := by
  have hx := X.hx
  have hb := X.hb
  unfold f_Pl_isMustBy_L2b at hf
  refine lv_iload_n hx hb dX6_isMustBy_2 rfl (lv_at hl 3 rfl) ?_
  refine lv_bipush (v := 8) hx hb dX6_isMustBy_3 (by decide) ?_
  refine lv_icmp_ge (tgt := 61) hx hb dX6_isMustBy_5 (by decide) (fun c1 => ?_) (fun c1 => ?_)
  · have hf := e_t c1 hf
    refine lv_iconst (v := 0) hx hb dX6_isMustBy_61 (by decide) ?_
    exact r_z X hH rfl hf dX6_isMustBy_62
  · have hf := e_f c1 hf
    refine lv_iconst (v := 0) hx hb dX6_isMustBy_8 (by decide) ?_
    refine lv_istore (lv' := [(4, .int 0), (0, .ref (aG G 10)), (1, .int v1), (2, .ref (aG G 3)), (3, .int v3)]) hx hb dX6_isMustBy_9 hl (by decide) rfl (fun ls hl => ?_)
    exact b_Pl_isMustBy_10_3_11 (N := N) X hk2 _ _ _ _ _ _ _ _ hH (lv_sub hl [1, 2, 3, 4, 0] rfl) hf
theorem b_Pl_isMustBy_10_3_2 {l : Launch} {G : GT} {N : Nat} {p : Program} {e : Env} {s : State} {m : MethodId} {args : Array Value} {below : List Frame} {meth : Method} {c : Code} (X : Cx G p s m args meth c cX6_isMustBy 5 RX6 (some .boolean)) {r : Int32} {υ : Hp} : ∀ (n : Nat) (τ : Hp) (v1 v3 : Int32) (H : Heap) (locs : List Loc) (ls : Array Slot), Hs G τ s H locs → lv_has ls 5 [(0, .ref (aG G 10)), (1, .int v1), (2, .ref (aG G 3)), (3, .int v3)] → f_Pl_isMustBy_L2 N 10 3 n τ v1 v3 = some (r, υ) → WI l G (rmG 2 43) p e s m args below meth c r υ H locs (F0 m 2 ls []) := by
  intro n
  induction n with
  | zero => intro τ v1 v3 H locs ls hH hl hf; exact nomatch (show (none : OR) = some (r, υ) from hf)
  | succ n ih => intro τ v1 v3 H locs ls hH hl hf; exact b_Pl_isMustBy_10_3_2b (N := N) X ih hH hl hf
set_option maxHeartbeats 4000000 in
set_option maxRecDepth 100000 in
theorem b_Pl_isMustBy_10_3_0 {l : Launch} {G : GT} {N : Nat} {p : Program} {e : Env} {s : State} {m : MethodId} {args : Array Value} {below : List Frame} {meth : Method} {c : Code} (X : Cx G p s m args meth c cX6_isMustBy 5 RX6 (some .boolean)) {r : Int32} {υ : Hp} {τ : Hp} {v1 : Int32} {H : Heap} {locs : List Loc} {ls : Array Slot} (hH : Hs G τ s H locs) (hl : lv_has ls 5 [(0, .ref (aG G 10)), (1, .int v1), (2, .ref (aG G 3))]) (hf : f_Pl_isMustBy N 10 3 τ v1 = some (r, υ)) : WI l G (rmG 2 43) p e s m args below meth c r υ H locs (F0 m 0 ls []) := by
  have hx := X.hx
  have hb := X.hb
  unfold f_Pl_isMustBy at hf
  refine lv_iconst (v := 0) hx hb dX6_isMustBy_0 (by decide) ?_
  refine lv_istore_n (lv' := [(3, .int 0), (0, .ref (aG G 10)), (1, .int v1), (2, .ref (aG G 3))]) hx hb dX6_isMustBy_1 rfl hl (by decide) rfl (fun ls hl => ?_)
  exact b_Pl_isMustBy_10_3_2 (N := N) X _ _ _ _ _ _ _ hH (lv_sub hl [1, 2, 3, 0] rfl) hf
theorem c_Pl_isMustBy_10_3 (l : Launch) (G : GT) {N : Nat} {τ υ : Hp} {v1 : Int32} {r : Int32} (hf : f_Pl_isMustBy N 10 3 τ v1 = some (r, υ)) : MI l G yX6_isMustBy cX6_isMustBy 5 (some .boolean) 2 43 [.ref (aG G 10), .int v1, .ref (aG G 3)] τ r υ := mk_I (by decide) (Nat.le_of_ble_eq_true rfl) (fun p e s m args below meth c X hH ls hl => b_Pl_isMustBy_10_3_0 (N := N) X hH (lv_sub hl [0, 1, 2] rfl) hf)
