-- Ly_openDoorsFrom_22_19 Jf_fill_24 Ly_openRooms_22 Ly_draw_22_19_4 La_costOf_5 Ly_hasUnlike_22_2 Sk_isCheaper_21_1_5_18 Sk_keepTrial_21 Sk_goOn_21 Nd_total_18 Jf_fill_23 Jf_fill_26 Sk_seekRooms_21_1_5_18 Ly_copyRooms_11_26 Nd_copyFrom_14_18 Ly_countStraysFrom_11_15_4
set_option maxHeartbeats 4000000 in
set_option maxRecDepth 100000 in
theorem b_Ly_openDoorsFrom_22_19_11b {l : Launch} {G : GT} {N : Nat} {p : Program} {e : Env} {s : State} {m : MethodId} {args : Array Value} {below : List Frame} {meth : Method} {c : Code} (X : Cx G p s m args meth c cX2_openDoorsFrom 8 RX2 none) {r : Int32} {υ : Hp} {k11 : Hp → Int32 → Int32 → Int32 → Int32 → OR} (hk11 : ∀ (τ : Hp) (v1 v3 v4 v5 : Int32) (H : Heap) (locs : List Loc) (ls : Array Slot), Hs G τ s H locs → lv_has ls 8 [(0, .ref (aG G 22)), (1, .int v1), (2, .ref (aG G 19)), (3, .int v3), (4, .int v4), (5, .int v5)] → k11 τ v1 v3 v4 v5 = some (r, υ) → WV l G (rmG 1 21) p e s m args below meth c υ H locs (F0 m 11 ls [])) {τ : Hp} {v1 v3 v4 v5 : Int32} {H : Heap} {locs : List Loc} {ls : Array Slot} (hH : Hs G τ s H locs) (hl : lv_has ls 8 [(0, .ref (aG G 22)), (1, .int v1), (2, .ref (aG G 19)), (3, .int v3), (4, .int v4), (5, .int v5)]) (hf : f_Ly_openDoorsFrom_L11b N 22 19 k11 τ v1 v3 v4 v5 = some (r, υ)) : WV l G (rmG 1 21) p e s m args below meth c υ H locs (F0 m 11 ls []) := by
  have hx := X.hx
  have hb := X.hb
  unfold f_Ly_openDoorsFrom_L11b at hf
  refine lv_iload hx hb dX2_openDoorsFrom_11 (lv_at hl 5 rfl) ?_
  refine lv_iload_n hx hb dX2_openDoorsFrom_13 rfl (lv_at hl 3 rfl) ?_
  refine lv_icmp_ge (tgt := 99) hx hb dX2_openDoorsFrom_14 (by decide) (fun c1 => ?_) (fun c1 => ?_)
  · have hf := e_t c1 hf
    exact r_v X hH hf dX2_openDoorsFrom_99
  · have hf := e_f c1 hf
    refine lv_aload_n hx hb dX2_openDoorsFrom_17 rfl (lv_at hl 2 rfl) ?_
    refine lv_iload_n hx hb dX2_openDoorsFrom_18 rfl (lv_at hl 1 rfl) ?_
    refine lv_iload hx hb dX2_openDoorsFrom_19 (lv_at hl 5 rfl) ?_
    obtain ⟨r2, τ3, hc4, hf⟩ := e_b hf
    refine c_SNi X hH (n := 2) (As := [.int _, .int _]) (rest := [.ref (aG G 19)]) (c_WP_pairOf l G (N := N) hc4) tw_223 13 rfl tw_222 tw_1 (by decide +kernel) ⟨by decide, by decide⟩ rfl hl.1 rfl (Nat.le_of_ble_eq_true rfl) ⟨Nat.zero_le _, Nat.zero_le _⟩ dX2_openDoorsFrom_21 (fun H locs hH => ?_)
    obtain ⟨g5, hf⟩ := e_g hf
    refine a_ld X hH (aa_19 G) g5 dX2_openDoorsFrom_24 ?_
    obtain ⟨x6, ex6, hf⟩ := e_l hf
    refine g_nm ex6 ?_
    refine lv_istore (lv' := [(6, .int x6), (0, .ref (aG G 22)), (1, .int v1), (2, .ref (aG G 19)), (3, .int v3), (4, .int v4), (5, .int v5)]) hx hb dX2_openDoorsFrom_25 hl (by decide) rfl (fun ls hl => ?_)
    refine lv_iload hx hb dX2_openDoorsFrom_27 (lv_at hl 0 rfl) ?_
    refine lv_if_eq (tgt := 93) hx hb dX2_openDoorsFrom_29 (by decide) (fun c7 => ?_) (fun c7 => ?_)
    · have hf := e_t c7 hf
      obtain ⟨x8, ex8, hf⟩ := e_l hf
      refine lv_iinc (v := x8) (lv' := [(5, .int x8), (6, .int x6), (0, .ref (aG G 22)), (1, .int v1), (2, .ref (aG G 19)), (3, .int v3), (4, .int v4)]) hx hb dX2_openDoorsFrom_93 hl (k := 6) rfl (by rw [ex8]; rfl) (by decide) rfl (fun ls hl => ?_)
      refine lv_goto (tgt := 11) hx hb dX2_openDoorsFrom_96 (by decide) ?_
      exact hk11 _ _ _ _ _ _ _ _ hH (lv_sub hl [2, 3, 4, 5, 6, 0] rfl) hf
    · have hf := e_f c7 hf
      refine lv_aload_n hx hb dX2_openDoorsFrom_32 rfl (lv_at hl 1 rfl) ?_
      refine g_get X hH (fa_22_0 G) tw_81 dX2_openDoorsFrom_33 ?_
      refine lv_iload hx hb dX2_openDoorsFrom_36 (lv_at hl 6 rfl) ?_
      obtain ⟨g9, hf⟩ := e_g hf
      refine a_ld X hH (aa_23 G) g9 dX2_openDoorsFrom_38 ?_
      refine lv_iconst (v := (-1)) hx hb dX2_openDoorsFrom_39 (by decide) ?_
      refine lv_icmp_eq (tgt := 93) hx hb dX2_openDoorsFrom_40 (by decide) (fun c10 => ?_) (fun c10 => ?_)
      · have hf := e_t c10 hf
        obtain ⟨x11, ex11, hf⟩ := e_l hf
        refine lv_iinc (v := x11) (lv' := [(5, .int x11), (6, .int x6), (0, .ref (aG G 22)), (1, .int v1), (2, .ref (aG G 19)), (3, .int v3), (4, .int v4)]) hx hb dX2_openDoorsFrom_93 hl (k := 6) rfl (by rw [ex11]; rfl) (by decide) rfl (fun ls hl => ?_)
        refine lv_goto (tgt := 11) hx hb dX2_openDoorsFrom_96 (by decide) ?_
        exact hk11 _ _ _ _ _ _ _ _ hH (lv_sub hl [2, 3, 4, 5, 6, 0] rfl) hf
      · have hf := e_f c10 hf
        refine lv_iload hx hb dX2_openDoorsFrom_43 (lv_at hl 5 rfl) ?_
        refine lv_aload_n hx hb dX2_openDoorsFrom_45 rfl (lv_at hl 1 rfl) ?_
        refine g_get X hH (fa_22_0 G) tw_81 dX2_openDoorsFrom_46 ?_
        refine lv_iload hx hb dX2_openDoorsFrom_49 (lv_at hl 6 rfl) ?_
        obtain ⟨g12, hf⟩ := e_g hf
        refine a_ld X hH (aa_23 G) g12 dX2_openDoorsFrom_51 ?_
        obtain ⟨r13, τ14, hc15, hf⟩ := e_b hf
        refine c_SNi X hH (n := 2) (As := [.int _, .int _]) (rest := []) (c_WP_pairOf l G (N := N) hc15) tw_223 13 rfl tw_222 tw_1 (by decide +kernel) ⟨by decide, by decide⟩ rfl hl.1 rfl (Nat.le_of_ble_eq_true rfl) ⟨Nat.zero_le _, Nat.zero_le _⟩ dX2_openDoorsFrom_52 (fun H locs hH => ?_)
        refine lv_istore (lv' := [(7, .int r13), (6, .int x6), (0, .ref (aG G 22)), (1, .int v1), (2, .ref (aG G 19)), (3, .int v3), (4, .int v4), (5, .int v5)]) hx hb dX2_openDoorsFrom_55 hl (by decide) rfl (fun ls hl => ?_)
        refine lv_aload_n hx hb dX2_openDoorsFrom_57 rfl (lv_at hl 2 rfl) ?_
        refine lv_dup hx hb dX2_openDoorsFrom_58 rfl ?_
        refine g_get X hH (fa_22_2 G) tw_83 dX2_openDoorsFrom_59 ?_
        refine lv_iload hx hb dX2_openDoorsFrom_62 (lv_at hl 1 rfl) ?_
        refine lv_aload_n hx hb dX2_openDoorsFrom_64 rfl (lv_at hl 2 rfl) ?_
        refine g_get X hH (fa_22_1 G) tw_82 dX2_openDoorsFrom_65 ?_
        refine lv_iload hx hb dX2_openDoorsFrom_68 (lv_at hl 0 rfl) ?_
        obtain ⟨g16, hf⟩ := e_g hf
        refine a_ld X hH (aa_24 G) g16 dX2_openDoorsFrom_70 ?_
        refine lv_iconst (v := (-1)) hx hb dX2_openDoorsFrom_71 (by decide) ?_
        refine lv_ixor hx hb dX2_openDoorsFrom_72 ?_
        refine lv_iand hx hb dX2_openDoorsFrom_73 ?_
        obtain ⟨r17, τ18, hc19, hf⟩ := e_b hf
        refine c_Si X hH (n := 1) (As := [.int _]) (rest := [.int _, .ref (aG G 22)]) (c_Jb_bitCount l G (N := N) hc19) tw_297 tw_324 tw_296 tw_14 (by decide +kernel) ⟨by decide, by decide⟩ rfl hl.1 rfl (Nat.le_of_ble_eq_true rfl) ⟨Nat.zero_le _, Nat.zero_le _⟩ dX2_openDoorsFrom_74 (fun H locs hH => ?_)
        refine lv_iadd hx hb dX2_openDoorsFrom_77 ?_
        obtain ⟨τ20, eτ20, hf⟩ := e_l hf
        refine g_put X hH (fp_22_2 G) tw_83 rfl rfl dX2_openDoorsFrom_78 (fun H locs hH => ?_)
        have hH : Hs G τ20 s H locs := by rw [eτ20]; exact hH
        refine lv_aload_n hx hb dX2_openDoorsFrom_81 rfl (lv_at hl 2 rfl) ?_
        refine g_get X hH (fa_22_1 G) tw_82 dX2_openDoorsFrom_82 ?_
        refine lv_iload hx hb dX2_openDoorsFrom_85 (lv_at hl 0 rfl) ?_
        refine lv_dup2_11 hx hb dX2_openDoorsFrom_87 rfl rfl ?_
        obtain ⟨g21, hf⟩ := e_g hf
        refine a_ld X hH (aa_24 G) g21 dX2_openDoorsFrom_88 ?_
        refine lv_iload hx hb dX2_openDoorsFrom_89 (lv_at hl 1 rfl) ?_
        refine lv_ior hx hb dX2_openDoorsFrom_91 ?_
        obtain ⟨g22, hf⟩ := e_g hf
        obtain ⟨τ23, eτ23, hf⟩ := e_l hf
        refine a_st X hH (aa_24 G) g22 dX2_openDoorsFrom_92 (fun H locs hH => ?_)
        have hH : Hs G τ23 s H locs := by rw [eτ23]; exact hH
        obtain ⟨x24, ex24, hf⟩ := e_l hf
        refine lv_iinc (v := x24) (lv' := [(5, .int x24), (7, .int r13), (6, .int x6), (0, .ref (aG G 22)), (1, .int v1), (2, .ref (aG G 19)), (3, .int v3), (4, .int v4)]) hx hb dX2_openDoorsFrom_93 hl (k := 7) rfl (by rw [ex24]; rfl) (by decide) rfl (fun ls hl => ?_)
        refine lv_goto (tgt := 11) hx hb dX2_openDoorsFrom_96 (by decide) ?_
        exact hk11 _ _ _ _ _ _ _ _ hH (lv_sub hl [3, 4, 5, 6, 7, 0] rfl) hf
theorem b_Ly_openDoorsFrom_22_19_11 {l : Launch} {G : GT} {N : Nat} {p : Program} {e : Env} {s : State} {m : MethodId} {args : Array Value} {below : List Frame} {meth : Method} {c : Code} (X : Cx G p s m args meth c cX2_openDoorsFrom 8 RX2 none) {r : Int32} {υ : Hp} : ∀ (n : Nat) (τ : Hp) (v1 v3 v4 v5 : Int32) (H : Heap) (locs : List Loc) (ls : Array Slot), Hs G τ s H locs → lv_has ls 8 [(0, .ref (aG G 22)), (1, .int v1), (2, .ref (aG G 19)), (3, .int v3), (4, .int v4), (5, .int v5)] → f_Ly_openDoorsFrom_L11 N 22 19 n τ v1 v3 v4 v5 = some (r, υ) → WV l G (rmG 1 21) p e s m args below meth c υ H locs (F0 m 11 ls []) := by
  intro n
  induction n with
  | zero => intro τ v1 v3 v4 v5 H locs ls hH hl hf; exact nomatch (show (none : OR) = some (r, υ) from hf)
  | succ n ih => intro τ v1 v3 v4 v5 H locs ls hH hl hf; exact b_Ly_openDoorsFrom_22_19_11b (N := N) X ih hH hl hf
set_option maxHeartbeats 4000000 in
set_option maxRecDepth 100000 in
theorem b_Ly_openDoorsFrom_22_19_0 {l : Launch} {G : GT} {N : Nat} {p : Program} {e : Env} {s : State} {m : MethodId} {args : Array Value} {below : List Frame} {meth : Method} {c : Code} (X : Cx G p s m args meth c cX2_openDoorsFrom 8 RX2 none) {r : Int32} {υ : Hp} {τ : Hp} {v1 v3 : Int32} {H : Heap} {locs : List Loc} {ls : Array Slot} (hH : Hs G τ s H locs) (hl : lv_has ls 8 [(0, .ref (aG G 22)), (1, .int v1), (2, .ref (aG G 19)), (3, .int v3)]) (hf : f_Ly_openDoorsFrom N 22 19 τ v1 v3 = some (r, υ)) : WV l G (rmG 1 21) p e s m args below meth c υ H locs (F0 m 0 ls []) := by
  have hx := X.hx
  have hb := X.hb
  unfold f_Ly_openDoorsFrom at hf
  refine lv_aload_n hx hb dX2_openDoorsFrom_0 rfl (lv_at hl 0 rfl) ?_
  refine g_get X hH (fa_22_0 G) tw_81 dX2_openDoorsFrom_1 ?_
  refine lv_iload_n hx hb dX2_openDoorsFrom_4 rfl (lv_at hl 1 rfl) ?_
  obtain ⟨g1, hf⟩ := e_g hf
  refine a_ld X hH (aa_23 G) g1 dX2_openDoorsFrom_5 ?_
  obtain ⟨x2, ex2, hf⟩ := e_l hf
  refine g_nm ex2 ?_
  refine lv_istore (lv' := [(4, .int x2), (0, .ref (aG G 22)), (1, .int v1), (2, .ref (aG G 19)), (3, .int v3)]) hx hb dX2_openDoorsFrom_6 hl (by decide) rfl (fun ls hl => ?_)
  refine lv_iconst (v := 0) hx hb dX2_openDoorsFrom_8 (by decide) ?_
  refine lv_istore (lv' := [(5, .int 0), (4, .int x2), (0, .ref (aG G 22)), (1, .int v1), (2, .ref (aG G 19)), (3, .int v3)]) hx hb dX2_openDoorsFrom_9 hl (by decide) rfl (fun ls hl => ?_)
  exact b_Ly_openDoorsFrom_22_19_11 (N := N) X _ _ _ _ _ _ _ _ _ hH (lv_sub hl [2, 3, 4, 5, 1, 0] rfl) hf
theorem c_Ly_openDoorsFrom_22_19 (l : Launch) (G : GT) {N : Nat} {τ υ : Hp} {v1 v3 : Int32} {r : Int32} (hf : f_Ly_openDoorsFrom N 22 19 τ v1 v3 = some (r, υ)) : MV l G yX2_openDoorsFrom cX2_openDoorsFrom 8 1 21 [.ref (aG G 22), .int v1, .ref (aG G 19), .int v3] τ υ := mk_V (by decide) (Nat.le_of_ble_eq_true rfl) (fun p e s m args below meth c X hH ls hl => b_Ly_openDoorsFrom_22_19_0 (N := N) X hH (lv_sub hl [0, 1, 2, 3] rfl) hf)
set_option maxHeartbeats 4000000 in
set_option maxRecDepth 100000 in
theorem b_Jf_fill_24_5b {l : Launch} {G : GT} {N : Nat} {p : Program} {e : Env} {s : State} {m : MethodId} {args : Array Value} {below : List Frame} {meth : Method} {c : Code} (X : Cx G p s m args meth c cJ7_fill_53178 4 RJ7 none) {r : Int32} {υ : Hp} {k5 : Hp → Int32 → Int32 → Int32 → OR} (hk5 : ∀ (τ : Hp) (v1 v2 v3 : Int32) (H : Heap) (locs : List Loc) (ls : Array Slot), Hs G τ s H locs → lv_has ls 4 [(0, .ref (aG G 24)), (1, .int v1), (2, .int v2), (3, .int v3)] → k5 τ v1 v2 v3 = some (r, υ) → WV l G (rmG 0 0) p e s m args below meth c υ H locs (F0 m 5 ls [])) {τ : Hp} {v1 v2 v3 : Int32} {H : Heap} {locs : List Loc} {ls : Array Slot} (hH : Hs G τ s H locs) (hl : lv_has ls 4 [(0, .ref (aG G 24)), (1, .int v1), (2, .int v2), (3, .int v3)]) (hf : f_Jf_fill_L5b N 24 k5 τ v1 v2 v3 = some (r, υ)) : WV l G (rmG 0 0) p e s m args below meth c υ H locs (F0 m 5 ls []) := by
  have hx := X.hx
  have hb := X.hb
  unfold f_Jf_fill_L5b at hf
  refine lv_iload_n hx hb dJ7_fill_53178_5 rfl (lv_at hl 2 rfl) ?_
  refine lv_iload_n hx hb dJ7_fill_53178_6 rfl (lv_at hl 3 rfl) ?_
  refine lv_icmp_ge (tgt := 20) hx hb dJ7_fill_53178_7 (by decide) (fun c1 => ?_) (fun c1 => ?_)
  · have hf := e_t c1 hf
    exact r_v X hH hf dJ7_fill_53178_20
  · have hf := e_f c1 hf
    refine lv_aload_n hx hb dJ7_fill_53178_10 rfl (lv_at hl 0 rfl) ?_
    refine lv_iload_n hx hb dJ7_fill_53178_11 rfl (lv_at hl 2 rfl) ?_
    refine lv_iload_n hx hb dJ7_fill_53178_12 rfl (lv_at hl 1 rfl) ?_
    obtain ⟨g2, hf⟩ := e_g hf
    obtain ⟨τ3, eτ3, hf⟩ := e_l hf
    refine a_st X hH (aa_24 G) g2 dJ7_fill_53178_13 (fun H locs hH => ?_)
    have hH : Hs G τ3 s H locs := by rw [eτ3]; exact hH
    obtain ⟨x4, ex4, hf⟩ := e_l hf
    refine lv_iinc (v := x4) (lv' := [(2, .int x4), (0, .ref (aG G 24)), (1, .int v1), (3, .int v3)]) hx hb dJ7_fill_53178_14 hl (k := 2) rfl (by rw [ex4]; rfl) (by decide) rfl (fun ls hl => ?_)
    refine lv_goto (tgt := 5) hx hb dJ7_fill_53178_17 (by decide) ?_
    exact hk5 _ _ _ _ _ _ _ hH (lv_sub hl [1, 2, 0, 3] rfl) hf
theorem b_Jf_fill_24_5 {l : Launch} {G : GT} {N : Nat} {p : Program} {e : Env} {s : State} {m : MethodId} {args : Array Value} {below : List Frame} {meth : Method} {c : Code} (X : Cx G p s m args meth c cJ7_fill_53178 4 RJ7 none) {r : Int32} {υ : Hp} : ∀ (n : Nat) (τ : Hp) (v1 v2 v3 : Int32) (H : Heap) (locs : List Loc) (ls : Array Slot), Hs G τ s H locs → lv_has ls 4 [(0, .ref (aG G 24)), (1, .int v1), (2, .int v2), (3, .int v3)] → f_Jf_fill_L5 N 24 n τ v1 v2 v3 = some (r, υ) → WV l G (rmG 0 0) p e s m args below meth c υ H locs (F0 m 5 ls []) := by
  intro n
  induction n with
  | zero => intro τ v1 v2 v3 H locs ls hH hl hf; exact nomatch (show (none : OR) = some (r, υ) from hf)
  | succ n ih => intro τ v1 v2 v3 H locs ls hH hl hf; exact b_Jf_fill_24_5b (N := N) X ih hH hl hf
set_option maxHeartbeats 4000000 in
set_option maxRecDepth 100000 in
theorem b_Jf_fill_24_0 {l : Launch} {G : GT} {N : Nat} {p : Program} {e : Env} {s : State} {m : MethodId} {args : Array Value} {below : List Frame} {meth : Method} {c : Code} (X : Cx G p s m args meth c cJ7_fill_53178 4 RJ7 none) {r : Int32} {υ : Hp} {τ : Hp} {v1 : Int32} {H : Heap} {locs : List Loc} {ls : Array Slot} (hH : Hs G τ s H locs) (hl : lv_has ls 4 [(0, .ref (aG G 24)), (1, .int v1)]) (hf : f_Jf_fill N 24 τ v1 = some (r, υ)) : WV l G (rmG 0 0) p e s m args below meth c υ H locs (F0 m 0 ls []) := by
  have hx := X.hx
  have hb := X.hb
  unfold f_Jf_fill at hf
  refine lv_iconst (v := 0) hx hb dJ7_fill_53178_0 (by decide) ?_
  refine lv_istore_n (lv' := [(2, .int 0), (0, .ref (aG G 24)), (1, .int v1)]) hx hb dJ7_fill_53178_1 rfl hl (by decide) rfl (fun ls hl => ?_)
  refine lv_aload_n hx hb dJ7_fill_53178_2 rfl (lv_at hl 1 rfl) ?_
  refine a_len X hH (aa_24 G) dJ7_fill_53178_3 ?_
  obtain ⟨x1, ex1, hf⟩ := e_l hf
  refine g_nm ex1 ?_
  refine lv_istore_n (lv' := [(3, .int x1), (2, .int 0), (0, .ref (aG G 24)), (1, .int v1)]) hx hb dJ7_fill_53178_4 rfl hl (by decide) rfl (fun ls hl => ?_)
  exact b_Jf_fill_24_5 (N := N) X _ _ _ _ _ _ _ _ hH (lv_sub hl [2, 3, 1, 0] rfl) hf
theorem c_Jf_fill_24 (l : Launch) (G : GT) {N : Nat} {τ υ : Hp} {v1 : Int32} {r : Int32} (hf : f_Jf_fill N 24 τ v1 = some (r, υ)) : MV l G yJ7_fill_53178 cJ7_fill_53178 4 0 0 [.ref (aG G 24), .int v1] τ υ := mk_V (by decide) (Nat.le_of_ble_eq_true rfl) (fun p e s m args below meth c X hH ls hl => b_Jf_fill_24_0 (N := N) X hH (lv_sub hl [0, 1] rfl) hf)
set_option maxHeartbeats 4000000 in
set_option maxRecDepth 100000 in
theorem b_Ly_openRooms_22_15b {l : Launch} {G : GT} {N : Nat} {p : Program} {e : Env} {s : State} {m : MethodId} {args : Array Value} {below : List Frame} {meth : Method} {c : Code} (X : Cx G p s m args meth c cX2_openRooms 2 RX2 none) {r : Int32} {υ : Hp} {k15 : Hp → Int32 → OR} (hk15 : ∀ (τ : Hp) (v1 : Int32) (H : Heap) (locs : List Loc) (ls : Array Slot), Hs G τ s H locs → lv_has ls 2 [(0, .ref (aG G 22)), (1, .int v1)] → k15 τ v1 = some (r, υ) → WV l G (rmG 1 23) p e s m args below meth c υ H locs (F0 m 15 ls [])) {τ : Hp} {v1 : Int32} {H : Heap} {locs : List Loc} {ls : Array Slot} (hH : Hs G τ s H locs) (hl : lv_has ls 2 [(0, .ref (aG G 22)), (1, .int v1)]) (hf : f_Ly_openRooms_L15b N 22 k15 τ v1 = some (r, υ)) : WV l G (rmG 1 23) p e s m args below meth c υ H locs (F0 m 15 ls []) := by
  have hx := X.hx
  have hb := X.hb
  unfold f_Ly_openRooms_L15b at hf
  refine lv_iload_n hx hb dX2_openRooms_15 rfl (lv_at hl 1 rfl) ?_
  refine lv_bipush (v := 8) hx hb dX2_openRooms_16 (by decide) ?_
  refine lv_icmp_ge (tgt := 39) hx hb dX2_openRooms_18 (by decide) (fun c1 => ?_) (fun c1 => ?_)
  · have hf := e_t c1 hf
    exact r_v X hH hf dX2_openRooms_39
  · have hf := e_f c1 hf
    refine lv_aload_n hx hb dX2_openRooms_21 rfl (lv_at hl 0 rfl) ?_
    refine g_get X hH (fa_22_1 G) tw_82 dX2_openRooms_22 ?_
    refine lv_iload_n hx hb dX2_openRooms_25 rfl (lv_at hl 1 rfl) ?_
    refine lv_iload_n hx hb dX2_openRooms_26 rfl (lv_at hl 1 rfl) ?_
    obtain ⟨r2, τ3, hc4, hf⟩ := e_b hf
    refine c_SNi X hH (n := 2) (As := [.int _, .int _]) (rest := [.ref (aG G 24)]) (c_WP_pairOf l G (N := N) hc4) tw_223 13 rfl tw_222 tw_1 (by decide +kernel) ⟨by decide, by decide⟩ rfl hl.1 rfl (Nat.le_of_ble_eq_true rfl) ⟨Nat.zero_le _, Nat.zero_le _⟩ dX2_openRooms_27 (fun H locs hH => ?_)
    refine lv_bipush (v := 15) hx hb dX2_openRooms_30 (by decide) ?_
    obtain ⟨g5, hf⟩ := e_g hf
    obtain ⟨τ6, eτ6, hf⟩ := e_l hf
    refine a_st X hH (aa_24 G) g5 dX2_openRooms_32 (fun H locs hH => ?_)
    have hH : Hs G τ6 s H locs := by rw [eτ6]; exact hH
    obtain ⟨x7, ex7, hf⟩ := e_l hf
    refine lv_iinc (v := x7) (lv' := [(1, .int x7), (0, .ref (aG G 22))]) hx hb dX2_openRooms_33 hl (k := 1) rfl (by rw [ex7]; rfl) (by decide) rfl (fun ls hl => ?_)
    refine lv_goto (tgt := 15) hx hb dX2_openRooms_36 (by decide) ?_
    exact hk15 _ _ _ _ _ hH (lv_sub hl [1, 0] rfl) hf
theorem b_Ly_openRooms_22_15 {l : Launch} {G : GT} {N : Nat} {p : Program} {e : Env} {s : State} {m : MethodId} {args : Array Value} {below : List Frame} {meth : Method} {c : Code} (X : Cx G p s m args meth c cX2_openRooms 2 RX2 none) {r : Int32} {υ : Hp} : ∀ (n : Nat) (τ : Hp) (v1 : Int32) (H : Heap) (locs : List Loc) (ls : Array Slot), Hs G τ s H locs → lv_has ls 2 [(0, .ref (aG G 22)), (1, .int v1)] → f_Ly_openRooms_L15 N 22 n τ v1 = some (r, υ) → WV l G (rmG 1 23) p e s m args below meth c υ H locs (F0 m 15 ls []) := by
  intro n
  induction n with
  | zero => intro τ v1 H locs ls hH hl hf; exact nomatch (show (none : OR) = some (r, υ) from hf)
  | succ n ih => intro τ v1 H locs ls hH hl hf; exact b_Ly_openRooms_22_15b (N := N) X ih hH hl hf
set_option maxHeartbeats 4000000 in
set_option maxRecDepth 100000 in
theorem b_Ly_openRooms_22_0 {l : Launch} {G : GT} {N : Nat} {p : Program} {e : Env} {s : State} {m : MethodId} {args : Array Value} {below : List Frame} {meth : Method} {c : Code} (X : Cx G p s m args meth c cX2_openRooms 2 RX2 none) {r : Int32} {υ : Hp} {τ : Hp} {H : Heap} {locs : List Loc} {ls : Array Slot} (hH : Hs G τ s H locs) (hl : lv_has ls 2 [(0, .ref (aG G 22))]) (hf : f_Ly_openRooms N 22 τ = some (r, υ)) : WV l G (rmG 1 23) p e s m args below meth c υ H locs (F0 m 0 ls []) := by
  have hx := X.hx
  have hb := X.hb
  unfold f_Ly_openRooms at hf
  refine lv_aload_n hx hb dX2_openRooms_0 rfl (lv_at hl 0 rfl) ?_
  refine lv_iconst (v := 0) hx hb dX2_openRooms_1 (by decide) ?_
  obtain ⟨τ1, eτ1, hf⟩ := e_l hf
  refine g_put X hH (fp_22_2 G) tw_83 rfl rfl dX2_openRooms_2 (fun H locs hH => ?_)
  have hH : Hs G τ1 s H locs := by rw [eτ1]; exact hH
  refine lv_aload_n hx hb dX2_openRooms_5 rfl (lv_at hl 0 rfl) ?_
  refine g_get X hH (fa_22_1 G) tw_82 dX2_openRooms_6 ?_
  refine lv_iconst (v := 0) hx hb dX2_openRooms_9 (by decide) ?_
  obtain ⟨r2, τ3, hc4, hf⟩ := e_b hf
  refine c_Sv X hH (n := 2) (As := [.ref (aG G 24), .int _]) (rest := []) (c_Jf_fill_24 l G (N := N) hc4) tw_80 tw_78 tw_79 tw_7 (by decide +kernel) ⟨by decide, by decide⟩ rfl hl.1 rfl (Nat.le_of_ble_eq_true rfl) ⟨Nat.zero_le _, Nat.zero_le _⟩ dX2_openRooms_10 (fun H locs hH => ?_)
  refine lv_iconst (v := 0) hx hb dX2_openRooms_13 (by decide) ?_
  refine lv_istore_n (lv' := [(1, .int 0), (0, .ref (aG G 22))]) hx hb dX2_openRooms_14 rfl hl (by decide) rfl (fun ls hl => ?_)
  exact b_Ly_openRooms_22_15 (N := N) X _ _ _ _ _ _ hH (lv_sub hl [1, 0] rfl) hf
theorem c_Ly_openRooms_22 (l : Launch) (G : GT) {N : Nat} {τ υ : Hp} {r : Int32} (hf : f_Ly_openRooms N 22 τ = some (r, υ)) : MV l G yX2_openRooms cX2_openRooms 2 1 23 [.ref (aG G 22)] τ υ := mk_V (by decide) (Nat.le_of_ble_eq_true rfl) (fun p e s m args below meth c X hH ls hl => b_Ly_openRooms_22_0 (N := N) X hH (lv_sub hl [0] rfl) hf)
set_option maxHeartbeats 4000000 in
set_option maxRecDepth 100000 in
theorem b_Ly_draw_22_19_4_51b {l : Launch} {G : GT} {N : Nat} {p : Program} {e : Env} {s : State} {m : MethodId} {args : Array Value} {below : List Frame} {meth : Method} {c : Code} (X : Cx G p s m args meth c cX2_draw 5 RX2 none) {r : Int32} {υ : Hp} {k51 : Hp → Int32 → Int32 → OR} (hk51 : ∀ (τ : Hp) (v3 v4 : Int32) (H : Heap) (locs : List Loc) (ls : Array Slot), Hs G τ s H locs → lv_has ls 5 [(0, .ref (aG G 22)), (1, .ref (aG G 19)), (2, .ref (aG G 4)), (3, .int v3), (4, .int v4)] → k51 τ v3 v4 = some (r, υ) → WV l G (rmG 2 49) p e s m args below meth c υ H locs (F0 m 51 ls [])) {τ : Hp} {v3 v4 : Int32} {H : Heap} {locs : List Loc} {ls : Array Slot} (hH : Hs G τ s H locs) (hl : lv_has ls 5 [(0, .ref (aG G 22)), (1, .ref (aG G 19)), (2, .ref (aG G 4)), (3, .int v3), (4, .int v4)]) (hf : f_Ly_draw_L51b N 22 19 4 k51 τ v3 v4 = some (r, υ)) : WV l G (rmG 2 49) p e s m args below meth c υ H locs (F0 m 51 ls []) := by
  have hx := X.hx
  have hb := X.hb
  unfold f_Ly_draw_L51b at hf
  refine lv_iload hx hb dX2_draw_51 (lv_at hl 4 rfl) ?_
  refine lv_iload_n hx hb dX2_draw_53 rfl (lv_at hl 3 rfl) ?_
  refine lv_icmp_ge (tgt := 83) hx hb dX2_draw_54 (by decide) (fun c1 => ?_) (fun c1 => ?_)
  · have hf := e_t c1 hf
    exact r_v X hH hf dX2_draw_83
  · have hf := e_f c1 hf
    refine lv_aload_n hx hb dX2_draw_57 rfl (lv_at hl 0 rfl) ?_
    refine g_get X hH (fa_22_0 G) tw_81 dX2_draw_58 ?_
    refine lv_iload hx hb dX2_draw_61 (lv_at hl 4 rfl) ?_
    obtain ⟨g2, hf⟩ := e_g hf
    refine a_ld X hH (aa_23 G) g2 dX2_draw_63 ?_
    refine lv_iconst (v := (-1)) hx hb dX2_draw_64 (by decide) ?_
    refine lv_icmp_eq (tgt := 77) hx hb dX2_draw_65 (by decide) (fun c3 => ?_) (fun c3 => ?_)
    · have hf := e_t c3 hf
      obtain ⟨x4, ex4, hf⟩ := e_l hf
      refine lv_iinc (v := x4) (lv' := [(4, .int x4), (0, .ref (aG G 22)), (1, .ref (aG G 19)), (2, .ref (aG G 4)), (3, .int v3)]) hx hb dX2_draw_77 hl (k := 4) rfl (by rw [ex4]; rfl) (by decide) rfl (fun ls hl => ?_)
      refine lv_goto (tgt := 51) hx hb dX2_draw_80 (by decide) ?_
      exact hk51 _ _ _ _ _ _ hH (lv_sub hl [1, 2, 3, 4, 0] rfl) hf
    · have hf := e_f c3 hf
      refine lv_aload_n hx hb dX2_draw_68 rfl (lv_at hl 0 rfl) ?_
      refine lv_iload hx hb dX2_draw_69 (lv_at hl 4 rfl) ?_
      refine lv_aload_n hx hb dX2_draw_71 rfl (lv_at hl 1 rfl) ?_
      refine lv_aload_n hx hb dX2_draw_72 rfl (lv_at hl 2 rfl) ?_
      refine lv_iload_n hx hb dX2_draw_73 rfl (lv_at hl 3 rfl) ?_
      obtain ⟨r5, τ6, hc7, hf⟩ := e_b hf
      refine c_Vv X hH (k := 22) (n := 4) (As := [.int _, .ref (aG G 19), .ref (aG G 4), .int _]) (rest := []) (c_Ly_countStraysFrom_22_19_4 l G (N := N) hc7) (by decide) rfl rfl tw_327 tw_325 tw_326 tw_759 tw_6 (by decide +kernel) ⟨by decide, by decide⟩ rfl hl.1 rfl (Nat.le_of_ble_eq_true rfl) ⟨Nat.zero_le _, Nat.zero_le _⟩ dX2_draw_74 (fun H locs hH => ?_)
      obtain ⟨x8, ex8, hf⟩ := e_l hf
      refine lv_iinc (v := x8) (lv' := [(4, .int x8), (0, .ref (aG G 22)), (1, .ref (aG G 19)), (2, .ref (aG G 4)), (3, .int v3)]) hx hb dX2_draw_77 hl (k := 4) rfl (by rw [ex8]; rfl) (by decide) rfl (fun ls hl => ?_)
      refine lv_goto (tgt := 51) hx hb dX2_draw_80 (by decide) ?_
      exact hk51 _ _ _ _ _ _ hH (lv_sub hl [1, 2, 3, 4, 0] rfl) hf
theorem b_Ly_draw_22_19_4_51 {l : Launch} {G : GT} {N : Nat} {p : Program} {e : Env} {s : State} {m : MethodId} {args : Array Value} {below : List Frame} {meth : Method} {c : Code} (X : Cx G p s m args meth c cX2_draw 5 RX2 none) {r : Int32} {υ : Hp} : ∀ (n : Nat) (τ : Hp) (v3 v4 : Int32) (H : Heap) (locs : List Loc) (ls : Array Slot), Hs G τ s H locs → lv_has ls 5 [(0, .ref (aG G 22)), (1, .ref (aG G 19)), (2, .ref (aG G 4)), (3, .int v3), (4, .int v4)] → f_Ly_draw_L51 N 22 19 4 n τ v3 v4 = some (r, υ) → WV l G (rmG 2 49) p e s m args below meth c υ H locs (F0 m 51 ls []) := by
  intro n
  induction n with
  | zero => intro τ v3 v4 H locs ls hH hl hf; exact nomatch (show (none : OR) = some (r, υ) from hf)
  | succ n ih => intro τ v3 v4 H locs ls hH hl hf; exact b_Ly_draw_22_19_4_51b (N := N) X ih hH hl hf
set_option maxHeartbeats 4000000 in
set_option maxRecDepth 100000 in
theorem b_Ly_draw_22_19_4_7b {l : Launch} {G : GT} {N : Nat} {p : Program} {e : Env} {s : State} {m : MethodId} {args : Array Value} {below : List Frame} {meth : Method} {c : Code} (X : Cx G p s m args meth c cX2_draw 5 RX2 none) {r : Int32} {υ : Hp} {k7 : Hp → Int32 → Int32 → OR} (hk7 : ∀ (τ : Hp) (v3 v4 : Int32) (H : Heap) (locs : List Loc) (ls : Array Slot), Hs G τ s H locs → lv_has ls 5 [(0, .ref (aG G 22)), (1, .ref (aG G 19)), (2, .ref (aG G 4)), (3, .int v3), (4, .int v4)] → k7 τ v3 v4 = some (r, υ) → WV l G (rmG 2 49) p e s m args below meth c υ H locs (F0 m 7 ls [])) {τ : Hp} {v3 v4 : Int32} {H : Heap} {locs : List Loc} {ls : Array Slot} (hH : Hs G τ s H locs) (hl : lv_has ls 5 [(0, .ref (aG G 22)), (1, .ref (aG G 19)), (2, .ref (aG G 4)), (3, .int v3), (4, .int v4)]) (hf : f_Ly_draw_L7b N 22 19 4 k7 τ v3 v4 = some (r, υ)) : WV l G (rmG 2 49) p e s m args below meth c υ H locs (F0 m 7 ls []) := by
  have hx := X.hx
  have hb := X.hb
  unfold f_Ly_draw_L7b at hf
  refine lv_iload hx hb dX2_draw_7 (lv_at hl 4 rfl) ?_
  refine lv_iload_n hx hb dX2_draw_9 rfl (lv_at hl 3 rfl) ?_
  refine lv_icmp_ge (tgt := 38) hx hb dX2_draw_10 (by decide) (fun c1 => ?_) (fun c1 => ?_)
  · have hf := e_t c1 hf
    refine lv_aload_n hx hb dX2_draw_38 rfl (lv_at hl 0 rfl) ?_
    refine lv_iconst (v := 0) hx hb dX2_draw_39 (by decide) ?_
    obtain ⟨τ2, eτ2, hf⟩ := e_l hf
    refine g_put X hH (fp_22_3 G) tw_84 rfl rfl dX2_draw_40 (fun H locs hH => ?_)
    have hH : Hs G τ2 s H locs := by rw [eτ2]; exact hH
    refine lv_aload_n hx hb dX2_draw_43 rfl (lv_at hl 0 rfl) ?_
    refine lv_iconst (v := 0) hx hb dX2_draw_44 (by decide) ?_
    obtain ⟨τ3, eτ3, hf⟩ := e_l hf
    refine g_put X hH (fp_22_4 G) tw_85 (isB_n rfl) (isB_f rfl) dX2_draw_45 (fun H locs hH => ?_)
    have hH : Hs G τ3 s H locs := by rw [eτ3]; exact hH
    refine lv_iconst (v := 0) hx hb dX2_draw_48 (by decide) ?_
    refine lv_istore (lv' := [(4, .int 0), (0, .ref (aG G 22)), (1, .ref (aG G 19)), (2, .ref (aG G 4)), (3, .int v3)]) hx hb dX2_draw_49 hl (by decide) rfl (fun ls hl => ?_)
    exact b_Ly_draw_22_19_4_51 (N := N) X _ _ _ _ _ _ _ hH (lv_sub hl [1, 2, 3, 4, 0] rfl) hf
  · have hf := e_f c1 hf
    refine lv_aload_n hx hb dX2_draw_13 rfl (lv_at hl 0 rfl) ?_
    refine g_get X hH (fa_22_0 G) tw_81 dX2_draw_14 ?_
    refine lv_iload hx hb dX2_draw_17 (lv_at hl 4 rfl) ?_
    obtain ⟨g4, hf⟩ := e_g hf
    refine a_ld X hH (aa_23 G) g4 dX2_draw_19 ?_
    refine lv_iconst (v := (-1)) hx hb dX2_draw_20 (by decide) ?_
    refine lv_icmp_eq (tgt := 32) hx hb dX2_draw_21 (by decide) (fun c5 => ?_) (fun c5 => ?_)
    · have hf := e_t c5 hf
      obtain ⟨x6, ex6, hf⟩ := e_l hf
      refine lv_iinc (v := x6) (lv' := [(4, .int x6), (0, .ref (aG G 22)), (1, .ref (aG G 19)), (2, .ref (aG G 4)), (3, .int v3)]) hx hb dX2_draw_32 hl (k := 4) rfl (by rw [ex6]; rfl) (by decide) rfl (fun ls hl => ?_)
      refine lv_goto (tgt := 7) hx hb dX2_draw_35 (by decide) ?_
      exact hk7 _ _ _ _ _ _ hH (lv_sub hl [1, 2, 3, 4, 0] rfl) hf
    · have hf := e_f c5 hf
      refine lv_aload_n hx hb dX2_draw_24 rfl (lv_at hl 0 rfl) ?_
      refine lv_iload hx hb dX2_draw_25 (lv_at hl 4 rfl) ?_
      refine lv_aload_n hx hb dX2_draw_27 rfl (lv_at hl 1 rfl) ?_
      refine lv_iload_n hx hb dX2_draw_28 rfl (lv_at hl 3 rfl) ?_
      obtain ⟨r7, τ8, hc9, hf⟩ := e_b hf
      refine c_Vv X hH (k := 22) (n := 3) (As := [.int _, .ref (aG G 19), .int _]) (rest := []) (c_Ly_openDoorsFrom_22_19 l G (N := N) hc9) (by decide) rfl rfl tw_323 tw_321 tw_322 tw_758 tw_6 (by decide +kernel) ⟨by decide, by decide⟩ rfl hl.1 rfl (Nat.le_of_ble_eq_true rfl) ⟨Nat.zero_le _, Nat.zero_le _⟩ dX2_draw_29 (fun H locs hH => ?_)
      obtain ⟨x10, ex10, hf⟩ := e_l hf
      refine lv_iinc (v := x10) (lv' := [(4, .int x10), (0, .ref (aG G 22)), (1, .ref (aG G 19)), (2, .ref (aG G 4)), (3, .int v3)]) hx hb dX2_draw_32 hl (k := 4) rfl (by rw [ex10]; rfl) (by decide) rfl (fun ls hl => ?_)
      refine lv_goto (tgt := 7) hx hb dX2_draw_35 (by decide) ?_
      exact hk7 _ _ _ _ _ _ hH (lv_sub hl [1, 2, 3, 4, 0] rfl) hf
theorem b_Ly_draw_22_19_4_7 {l : Launch} {G : GT} {N : Nat} {p : Program} {e : Env} {s : State} {m : MethodId} {args : Array Value} {below : List Frame} {meth : Method} {c : Code} (X : Cx G p s m args meth c cX2_draw 5 RX2 none) {r : Int32} {υ : Hp} : ∀ (n : Nat) (τ : Hp) (v3 v4 : Int32) (H : Heap) (locs : List Loc) (ls : Array Slot), Hs G τ s H locs → lv_has ls 5 [(0, .ref (aG G 22)), (1, .ref (aG G 19)), (2, .ref (aG G 4)), (3, .int v3), (4, .int v4)] → f_Ly_draw_L7 N 22 19 4 n τ v3 v4 = some (r, υ) → WV l G (rmG 2 49) p e s m args below meth c υ H locs (F0 m 7 ls []) := by
  intro n
  induction n with
  | zero => intro τ v3 v4 H locs ls hH hl hf; exact nomatch (show (none : OR) = some (r, υ) from hf)
  | succ n ih => intro τ v3 v4 H locs ls hH hl hf; exact b_Ly_draw_22_19_4_7b (N := N) X ih hH hl hf
set_option maxHeartbeats 4000000 in
set_option maxRecDepth 100000 in
theorem b_Ly_draw_22_19_4_0 {l : Launch} {G : GT} {N : Nat} {p : Program} {e : Env} {s : State} {m : MethodId} {args : Array Value} {below : List Frame} {meth : Method} {c : Code} (X : Cx G p s m args meth c cX2_draw 5 RX2 none) {r : Int32} {υ : Hp} {τ : Hp} {v3 : Int32} {H : Heap} {locs : List Loc} {ls : Array Slot} (hH : Hs G τ s H locs) (hl : lv_has ls 5 [(0, .ref (aG G 22)), (1, .ref (aG G 19)), (2, .ref (aG G 4)), (3, .int v3)]) (hf : f_Ly_draw N 22 19 4 τ v3 = some (r, υ)) : WV l G (rmG 2 49) p e s m args below meth c υ H locs (F0 m 0 ls []) := by
  have hx := X.hx
  have hb := X.hb
  unfold f_Ly_draw at hf
  refine lv_aload_n hx hb dX2_draw_0 rfl (lv_at hl 0 rfl) ?_
  obtain ⟨r1, τ2, hc3, hf⟩ := e_b hf
  refine c_Vv X hH (k := 22) (n := 0) (As := []) (rest := []) (c_Ly_openRooms_22 l G (N := N) hc3) (by decide) rfl rfl tw_320 tw_318 tw_319 tw_757 tw_6 (by decide +kernel) ⟨by decide, by decide⟩ rfl hl.1 rfl (Nat.le_of_ble_eq_true rfl) ⟨Nat.zero_le _, Nat.zero_le _⟩ dX2_draw_1 (fun H locs hH => ?_)
  refine lv_iconst (v := 0) hx hb dX2_draw_4 (by decide) ?_
  refine lv_istore (lv' := [(4, .int 0), (0, .ref (aG G 22)), (1, .ref (aG G 19)), (2, .ref (aG G 4)), (3, .int v3)]) hx hb dX2_draw_5 hl (by decide) rfl (fun ls hl => ?_)
  exact b_Ly_draw_22_19_4_7 (N := N) X _ _ _ _ _ _ _ hH (lv_sub hl [1, 2, 3, 4, 0] rfl) hf
theorem c_Ly_draw_22_19_4 (l : Launch) (G : GT) {N : Nat} {τ υ : Hp} {v3 : Int32} {r : Int32} (hf : f_Ly_draw N 22 19 4 τ v3 = some (r, υ)) : MV l G yX2_draw cX2_draw 5 2 49 [.ref (aG G 22), .ref (aG G 19), .ref (aG G 4), .int v3] τ υ := mk_V (by decide) (Nat.le_of_ble_eq_true rfl) (fun p e s m args below meth c X hH ls hl => b_Ly_draw_22_19_4_0 (N := N) X hH (lv_sub hl [0, 1, 2, 3] rfl) hf)
set_option maxHeartbeats 4000000 in
set_option maxRecDepth 100000 in
theorem b_La_costOf_5_0 {l : Launch} {G : GT} {N : Nat} {p : Program} {e : Env} {s : State} {m : MethodId} {args : Array Value} {below : List Frame} {meth : Method} {c : Code} (X : Cx G p s m args meth c cX1_costOf 3 RX1 (some .int)) {r : Int32} {υ : Hp} {τ : Hp} {v1 v2 : Int32} {H : Heap} {locs : List Loc} {ls : Array Slot} (hH : Hs G τ s H locs) (hl : lv_has ls 3 [(0, .ref (aG G 5)), (1, .int v1), (2, .int v2)]) (hf : f_La_costOf N 5 τ v1 v2 = some (r, υ)) : WI l G (rmG 0 0) p e s m args below meth c r υ H locs (F0 m 0 ls []) := by
  have hx := X.hx
  have hb := X.hb
  unfold f_La_costOf at hf
  refine lv_iload_n hx hb dX1_costOf_0 rfl (lv_at hl 1 rfl) ?_
  refine lv_aload_n hx hb dX1_costOf_1 rfl (lv_at hl 0 rfl) ?_
  refine g_get X hH (fa_5_3 G) tw_47 dX1_costOf_2 ?_
  refine lv_imul hx hb dX1_costOf_5 ?_
  refine lv_iload_n hx hb dX1_costOf_6 rfl (lv_at hl 2 rfl) ?_
  refine lv_aload_n hx hb dX1_costOf_7 rfl (lv_at hl 0 rfl) ?_
  refine g_get X hH (fa_5_4 G) tw_48 dX1_costOf_8 ?_
  refine lv_imul hx hb dX1_costOf_11 ?_
  refine lv_iadd hx hb dX1_costOf_12 ?_
  exact r_i X hH hf dX1_costOf_13
theorem c_La_costOf_5 (l : Launch) (G : GT) {N : Nat} {τ υ : Hp} {v1 v2 : Int32} {r : Int32} (hf : f_La_costOf N 5 τ v1 v2 = some (r, υ)) : MI l G yX1_costOf cX1_costOf 3 (some .int) 0 0 [.ref (aG G 5), .int v1, .int v2] τ r υ := mk_I (by decide) (Nat.le_of_ble_eq_true rfl) (fun p e s m args below meth c X hH ls hl => b_La_costOf_5_0 (N := N) X hH (lv_sub hl [0, 1, 2] rfl) hf)
set_option maxHeartbeats 4000000 in
set_option maxRecDepth 100000 in
theorem b_Ly_hasUnlike_22_2_2b {l : Launch} {G : GT} {N : Nat} {p : Program} {e : Env} {s : State} {m : MethodId} {args : Array Value} {below : List Frame} {meth : Method} {c : Code} (X : Cx G p s m args meth c cX2_hasUnlike 4 RX2 (some .boolean)) {r : Int32} {υ : Hp} {k2 : Hp → Int32 → Int32 → OR} (hk2 : ∀ (τ : Hp) (v1 v3 : Int32) (H : Heap) (locs : List Loc) (ls : Array Slot), Hs G τ s H locs → lv_has ls 4 [(0, .ref (aG G 22)), (1, .int v1), (2, .ref (aG G 2)), (3, .int v3)] → k2 τ v1 v3 = some (r, υ) → WI l G (rmG 0 0) p e s m args below meth c r υ H locs (F0 m 2 ls [])) {τ : Hp} {v1 v3 : Int32} {H : Heap} {locs : List Loc} {ls : Array Slot} (hH : Hs G τ s H locs) (hl : lv_has ls 4 [(0, .ref (aG G 22)), (1, .int v1), (2, .ref (aG G 2)), (3, .int v3)]) (hf : f_Ly_hasUnlike_L2b N 22 2 k2 τ v1 v3 = some (r, υ)) : WI l G (rmG 0 0) p e s m args below meth c r υ H locs (F0 m 2 ls []) := by
  have hx := X.hx
  have hb := X.hb
  unfold f_Ly_hasUnlike_L2b at hf
  refine lv_iload_n hx hb dX2_hasUnlike_2 rfl (lv_at hl 3 rfl) ?_
  refine lv_bipush (v := 8) hx hb dX2_hasUnlike_3 (by decide) ?_
  refine lv_icmp_ge (tgt := 40) hx hb dX2_hasUnlike_5 (by decide) (fun c1 => ?_) (fun c1 => ?_)
  · have hf := e_t c1 hf
    refine lv_iconst (v := 0) hx hb dX2_hasUnlike_40 (by decide) ?_
    exact r_z X hH rfl hf dX2_hasUnlike_41
  · have hf := e_f c1 hf
    refine lv_aload_n hx hb dX2_hasUnlike_8 rfl (lv_at hl 0 rfl) ?_
    refine g_get X hH (fa_22_0 G) tw_81 dX2_hasUnlike_9 ?_
    refine lv_iload_n hx hb dX2_hasUnlike_12 rfl (lv_at hl 3 rfl) ?_
    obtain ⟨g2, hf⟩ := e_g hf
    refine a_ld X hH (aa_23 G) g2 dX2_hasUnlike_13 ?_
    refine lv_aload_n hx hb dX2_hasUnlike_14 rfl (lv_at hl 0 rfl) ?_
    refine g_get X hH (fa_22_0 G) tw_81 dX2_hasUnlike_15 ?_
    refine lv_iload_n hx hb dX2_hasUnlike_18 rfl (lv_at hl 1 rfl) ?_
    obtain ⟨g3, hf⟩ := e_g hf
    refine a_ld X hH (aa_23 G) g3 dX2_hasUnlike_19 ?_
    refine lv_icmp_ne (tgt := 34) hx hb dX2_hasUnlike_20 (by decide) (fun c4 => ?_) (fun c4 => ?_)
    · have hf := e_f c4 hf
      obtain ⟨x5, ex5, hf⟩ := e_l hf
      refine lv_iinc (v := x5) (lv' := [(3, .int x5), (0, .ref (aG G 22)), (1, .int v1), (2, .ref (aG G 2))]) hx hb dX2_hasUnlike_34 hl (k := 3) rfl (by rw [ex5]; rfl) (by decide) rfl (fun ls hl => ?_)
      refine lv_goto (tgt := 2) hx hb dX2_hasUnlike_37 (by decide) ?_
      exact hk2 _ _ _ _ _ _ hH (lv_sub hl [1, 2, 3, 0] rfl) hf
    · have hf := e_t c4 hf
      refine lv_aload_n hx hb dX2_hasUnlike_23 rfl (lv_at hl 2 rfl) ?_
      refine lv_iload_n hx hb dX2_hasUnlike_24 rfl (lv_at hl 3 rfl) ?_
      obtain ⟨g6, hf⟩ := e_g hf
      refine a_ld X hH (aa_2 G) g6 dX2_hasUnlike_25 ?_
      refine lv_aload_n hx hb dX2_hasUnlike_26 rfl (lv_at hl 2 rfl) ?_
      refine lv_iload_n hx hb dX2_hasUnlike_27 rfl (lv_at hl 1 rfl) ?_
      obtain ⟨g7, hf⟩ := e_g hf
      refine a_ld X hH (aa_2 G) g7 dX2_hasUnlike_28 ?_
      refine lv_icmp_eq (tgt := 34) hx hb dX2_hasUnlike_29 (by decide) (fun c8 => ?_) (fun c8 => ?_)
      · have hf := e_t c8 hf
        obtain ⟨x9, ex9, hf⟩ := e_l hf
        refine lv_iinc (v := x9) (lv' := [(3, .int x9), (0, .ref (aG G 22)), (1, .int v1), (2, .ref (aG G 2))]) hx hb dX2_hasUnlike_34 hl (k := 3) rfl (by rw [ex9]; rfl) (by decide) rfl (fun ls hl => ?_)
        refine lv_goto (tgt := 2) hx hb dX2_hasUnlike_37 (by decide) ?_
        exact hk2 _ _ _ _ _ _ hH (lv_sub hl [1, 2, 3, 0] rfl) hf
      · have hf := e_f c8 hf
        refine lv_iconst (v := 1) hx hb dX2_hasUnlike_32 (by decide) ?_
        exact r_z X hH rfl hf dX2_hasUnlike_33
theorem b_Ly_hasUnlike_22_2_2 {l : Launch} {G : GT} {N : Nat} {p : Program} {e : Env} {s : State} {m : MethodId} {args : Array Value} {below : List Frame} {meth : Method} {c : Code} (X : Cx G p s m args meth c cX2_hasUnlike 4 RX2 (some .boolean)) {r : Int32} {υ : Hp} : ∀ (n : Nat) (τ : Hp) (v1 v3 : Int32) (H : Heap) (locs : List Loc) (ls : Array Slot), Hs G τ s H locs → lv_has ls 4 [(0, .ref (aG G 22)), (1, .int v1), (2, .ref (aG G 2)), (3, .int v3)] → f_Ly_hasUnlike_L2 N 22 2 n τ v1 v3 = some (r, υ) → WI l G (rmG 0 0) p e s m args below meth c r υ H locs (F0 m 2 ls []) := by
  intro n
  induction n with
  | zero => intro τ v1 v3 H locs ls hH hl hf; exact nomatch (show (none : OR) = some (r, υ) from hf)
  | succ n ih => intro τ v1 v3 H locs ls hH hl hf; exact b_Ly_hasUnlike_22_2_2b (N := N) X ih hH hl hf
set_option maxHeartbeats 4000000 in
set_option maxRecDepth 100000 in
theorem b_Ly_hasUnlike_22_2_0 {l : Launch} {G : GT} {N : Nat} {p : Program} {e : Env} {s : State} {m : MethodId} {args : Array Value} {below : List Frame} {meth : Method} {c : Code} (X : Cx G p s m args meth c cX2_hasUnlike 4 RX2 (some .boolean)) {r : Int32} {υ : Hp} {τ : Hp} {v1 : Int32} {H : Heap} {locs : List Loc} {ls : Array Slot} (hH : Hs G τ s H locs) (hl : lv_has ls 4 [(0, .ref (aG G 22)), (1, .int v1), (2, .ref (aG G 2))]) (hf : f_Ly_hasUnlike N 22 2 τ v1 = some (r, υ)) : WI l G (rmG 0 0) p e s m args below meth c r υ H locs (F0 m 0 ls []) := by
  have hx := X.hx
  have hb := X.hb
  unfold f_Ly_hasUnlike at hf
  refine lv_iconst (v := 0) hx hb dX2_hasUnlike_0 (by decide) ?_
  refine lv_istore_n (lv' := [(3, .int 0), (0, .ref (aG G 22)), (1, .int v1), (2, .ref (aG G 2))]) hx hb dX2_hasUnlike_1 rfl hl (by decide) rfl (fun ls hl => ?_)
  exact b_Ly_hasUnlike_22_2_2 (N := N) X _ _ _ _ _ _ _ hH (lv_sub hl [1, 2, 3, 0] rfl) hf
theorem c_Ly_hasUnlike_22_2 (l : Launch) (G : GT) {N : Nat} {τ υ : Hp} {v1 : Int32} {r : Int32} (hf : f_Ly_hasUnlike N 22 2 τ v1 = some (r, υ)) : MI l G yX2_hasUnlike cX2_hasUnlike 4 (some .boolean) 0 0 [.ref (aG G 22), .int v1, .ref (aG G 2)] τ r υ := mk_I (by decide) (Nat.le_of_ble_eq_true rfl) (fun p e s m args below meth c X hH ls hl => b_Ly_hasUnlike_22_2_0 (N := N) X hH (lv_sub hl [0, 1, 2] rfl) hf)
set_option maxHeartbeats 4000000 in
set_option maxRecDepth 100000 in
theorem b_Sk_isCheaper_21_1_5_18_25 {l : Launch} {G : GT} {N : Nat} {p : Program} {e : Env} {s : State} {m : MethodId} {args : Array Value} {below : List Frame} {meth : Method} {c : Code} (X : Cx G p s m args meth c cX7_isCheaper 6 RX7 (some .boolean)) {r : Int32} {υ : Hp} {τ : Hp} {v2 : Int32} {H : Heap} {locs : List Loc} {ls : Array Slot} (hH : Hs G τ s H locs) (hl : lv_has ls 6 [(0, .ref (aG G 21)), (2, .int v2), (3, .ref (aG G 1)), (4, .ref (aG G 5)), (5, .ref (aG G 18))]) (hf : f_Sk_isCheaper_J25 N 21 1 5 18 τ v2 = some (r, υ)) : WI l G (rmG 3 73) p e s m args below meth c r υ H locs (F0 m 25 ls []) := by
  have hx := X.hx
  have hb := X.hb
  unfold f_Sk_isCheaper_J25 at hf
  refine lv_aload_n hx hb dX7_isCheaper_25 rfl (lv_at hl 0 rfl) ?_
  refine g_get X hH (fa_21_0 G) tw_120 dX7_isCheaper_26 ?_
  refine lv_aload hx hb dX7_isCheaper_29 (lv_at hl 4 rfl) ?_
  refine g_getN X hH (fa_18_0 G) 34 rfl dX7_isCheaper_31 ?_
  refine lv_aload_n hx hb dX7_isCheaper_34 rfl (lv_at hl 2 rfl) ?_
  refine g_getN X hH (fa_1_2 G) 4 rfl dX7_isCheaper_35 ?_
  refine lv_iload_n hx hb dX7_isCheaper_38 rfl (lv_at hl 1 rfl) ?_
  obtain ⟨r1, τ2, hc3, hf⟩ := e_b hf
  refine c_Vv X hH (k := 22) (n := 3) (As := [.ref (aG G 19), .ref (aG G 4), .int _]) (rest := []) (c_Ly_draw_22_19_4 l G (N := N) hc3) (by decide) rfl rfl tw_317 tw_314 tw_315 tw_316 tw_6 (by decide +kernel) ⟨by decide, by decide⟩ rfl hl.1 rfl (Nat.le_of_ble_eq_true rfl) ⟨Nat.zero_le _, Nat.zero_le _⟩ dX7_isCheaper_39 (fun H locs hH => ?_)
  refine lv_aload_n hx hb dX7_isCheaper_42 rfl (lv_at hl 0 rfl) ?_
  refine lv_aload hx hb dX7_isCheaper_43 (lv_at hl 3 rfl) ?_
  refine lv_aload_n hx hb dX7_isCheaper_45 rfl (lv_at hl 0 rfl) ?_
  refine g_get X hH (fa_21_0 G) tw_120 dX7_isCheaper_46 ?_
  refine g_getN X hH (fa_22_2 G) 28 rfl dX7_isCheaper_49 ?_
  refine lv_aload_n hx hb dX7_isCheaper_52 rfl (lv_at hl 0 rfl) ?_
  refine g_get X hH (fa_21_0 G) tw_120 dX7_isCheaper_53 ?_
  refine g_getN X hH (fa_22_3 G) 30 rfl dX7_isCheaper_56 ?_
  obtain ⟨r4, τ5, hc6, hf⟩ := e_b hf
  refine c_Vi X hH (k := 5) (n := 2) (As := [.int _, .int _]) (rest := [.ref (aG G 21)]) (c_La_costOf_5 l G (N := N) hc6) (by decide) rfl rfl tw_304 tw_301 tw_302 tw_303 tw_3 (by decide +kernel) ⟨by decide, by decide⟩ rfl hl.1 rfl (Nat.le_of_ble_eq_true rfl) ⟨Nat.zero_le _, Nat.zero_le _⟩ dX7_isCheaper_59 (fun H locs hH => ?_)
  obtain ⟨τ7, eτ7, hf⟩ := e_l hf
  refine g_put X hH (fp_21_3 G) tw_123 rfl rfl dX7_isCheaper_62 (fun H locs hH => ?_)
  have hH : Hs G τ7 s H locs := by rw [eτ7]; exact hH
  refine lv_aload_n hx hb dX7_isCheaper_65 rfl (lv_at hl 0 rfl) ?_
  refine g_get X hH (fa_21_0 G) tw_120 dX7_isCheaper_66 ?_
  refine g_getN X hH (fa_22_4 G) 32 rfl dX7_isCheaper_69 ?_
  refine lv_if_ne (tgt := 90) hx hb dX7_isCheaper_72 (by decide) (fun c8 => ?_) (fun c8 => ?_)
  · have hf := e_f c8 hf
    refine lv_iconst (v := 0) hx hb dX7_isCheaper_90 (by decide) ?_
    exact r_z X hH rfl hf dX7_isCheaper_91
  · have hf := e_t c8 hf
    refine lv_aload_n hx hb dX7_isCheaper_75 rfl (lv_at hl 0 rfl) ?_
    refine g_get X hH (fa_21_3 G) tw_123 dX7_isCheaper_76 ?_
    refine lv_aload_n hx hb dX7_isCheaper_79 rfl (lv_at hl 0 rfl) ?_
    refine g_get X hH (fa_21_4 G) tw_124 dX7_isCheaper_80 ?_
    refine lv_icmp_ge (tgt := 90) hx hb dX7_isCheaper_83 (by decide) (fun c9 => ?_) (fun c9 => ?_)
    · have hf := e_t c9 hf
      refine lv_iconst (v := 0) hx hb dX7_isCheaper_90 (by decide) ?_
      exact r_z X hH rfl hf dX7_isCheaper_91
    · have hf := e_f c9 hf
      refine lv_iconst (v := 1) hx hb dX7_isCheaper_86 (by decide) ?_
      refine lv_goto (tgt := 91) hx hb dX7_isCheaper_87 (by decide) ?_
      exact r_z X hH rfl hf dX7_isCheaper_91
set_option maxHeartbeats 4000000 in
set_option maxRecDepth 100000 in
theorem b_Sk_isCheaper_21_1_5_18_0 {l : Launch} {G : GT} {N : Nat} {p : Program} {e : Env} {s : State} {m : MethodId} {args : Array Value} {below : List Frame} {meth : Method} {c : Code} (X : Cx G p s m args meth c cX7_isCheaper 6 RX7 (some .boolean)) {r : Int32} {υ : Hp} {τ : Hp} {v1 v2 : Int32} {H : Heap} {locs : List Loc} {ls : Array Slot} (hH : Hs G τ s H locs) (hl : lv_has ls 6 [(0, .ref (aG G 21)), (1, .int v1), (2, .int v2), (3, .ref (aG G 1)), (4, .ref (aG G 5)), (5, .ref (aG G 18))]) (hf : f_Sk_isCheaper N 21 1 5 18 τ v1 v2 = some (r, υ)) : WI l G (rmG 3 73) p e s m args below meth c r υ H locs (F0 m 0 ls []) := by
  have hx := X.hx
  have hb := X.hb
  unfold f_Sk_isCheaper at hf
  refine lv_aload hx hb dX7_isCheaper_0 (lv_at hl 4 rfl) ?_
  refine g_getN X hH (fa_5_2 G) 12 rfl dX7_isCheaper_2 ?_
  refine lv_if_eq (tgt := 25) hx hb dX7_isCheaper_5 (by decide) (fun c1 => ?_) (fun c1 => ?_)
  · have hf := e_t c1 hf
    exact b_Sk_isCheaper_21_1_5_18_25 (N := N) X hH (lv_sub hl [0, 2, 3, 4, 5] rfl) hf
  · have hf := e_f c1 hf
    refine lv_aload_n hx hb dX7_isCheaper_8 rfl (lv_at hl 0 rfl) ?_
    refine g_get X hH (fa_21_0 G) tw_120 dX7_isCheaper_9 ?_
    refine lv_iload_n hx hb dX7_isCheaper_12 rfl (lv_at hl 1 rfl) ?_
    refine lv_aload_n hx hb dX7_isCheaper_13 rfl (lv_at hl 3 rfl) ?_
    refine g_getN X hH (fa_1_0 G) 0 rfl dX7_isCheaper_14 ?_
    obtain ⟨r2, τ3, hc4, hf⟩ := e_b hf
    refine c_Vi X hH (k := 22) (n := 2) (As := [.int _, .ref (aG G 2)]) (rest := []) (c_Ly_hasUnlike_22_2 l G (N := N) hc4) (by decide) rfl rfl tw_313 tw_310 tw_311 tw_312 tw_6 (by decide +kernel) ⟨by decide, by decide⟩ rfl hl.1 rfl (Nat.le_of_ble_eq_true rfl) ⟨Nat.zero_le _, Nat.zero_le _⟩ dX7_isCheaper_17 (fun H locs hH => ?_)
    refine lv_if_eq (tgt := 25) hx hb dX7_isCheaper_20 (by decide) (fun c5 => ?_) (fun c5 => ?_)
    · have hf := e_t c5 hf
      exact b_Sk_isCheaper_21_1_5_18_25 (N := N) X hH (lv_sub hl [0, 2, 3, 4, 5] rfl) hf
    · have hf := e_f c5 hf
      refine lv_iconst (v := 0) hx hb dX7_isCheaper_23 (by decide) ?_
      exact r_z X hH rfl hf dX7_isCheaper_24
theorem c_Sk_isCheaper_21_1_5_18 (l : Launch) (G : GT) {N : Nat} {τ υ : Hp} {v1 v2 : Int32} {r : Int32} (hf : f_Sk_isCheaper N 21 1 5 18 τ v1 v2 = some (r, υ)) : MI l G yX7_isCheaper cX7_isCheaper 6 (some .boolean) 3 73 [.ref (aG G 21), .int v1, .int v2, .ref (aG G 1), .ref (aG G 5), .ref (aG G 18)] τ r υ := mk_I (by decide) (Nat.le_of_ble_eq_true rfl) (fun p e s m args below meth c X hH ls hl => b_Sk_isCheaper_21_1_5_18_0 (N := N) X hH (lv_sub hl [0, 1, 2, 3, 4, 5] rfl) hf)
set_option maxHeartbeats 4000000 in
set_option maxRecDepth 100000 in
theorem b_Sk_keepTrial_21_0 {l : Launch} {G : GT} {N : Nat} {p : Program} {e : Env} {s : State} {m : MethodId} {args : Array Value} {below : List Frame} {meth : Method} {c : Code} (X : Cx G p s m args meth c cX7_keepTrial 1 RX7 none) {r : Int32} {υ : Hp} {τ : Hp} {H : Heap} {locs : List Loc} {ls : Array Slot} (hH : Hs G τ s H locs) (hl : lv_has ls 1 [(0, .ref (aG G 21))]) (hf : f_Sk_keepTrial N 21 τ = some (r, υ)) : WV l G (rmG 1 40) p e s m args below meth c υ H locs (F0 m 0 ls []) := by
  have hx := X.hx
  have hb := X.hb
  unfold f_Sk_keepTrial at hf
  refine lv_aload_n hx hb dX7_keepTrial_0 rfl (lv_at hl 0 rfl) ?_
  refine g_get X hH (fa_21_0 G) tw_120 dX7_keepTrial_1 ?_
  refine g_getN X hH (fa_22_0 G) 22 rfl dX7_keepTrial_4 ?_
  refine lv_iconst (v := 0) hx hb dX7_keepTrial_7 (by decide) ?_
  refine lv_aload_n hx hb dX7_keepTrial_8 rfl (lv_at hl 0 rfl) ?_
  refine g_get X hH (fa_21_2 G) tw_122 dX7_keepTrial_9 ?_
  refine lv_iconst (v := 0) hx hb dX7_keepTrial_12 (by decide) ?_
  refine lv_bipush (v := 8) hx hb dX7_keepTrial_13 (by decide) ?_
  obtain ⟨τ1, eτ1, hf⟩ := e_l hf
  refine a_cp X hH (aa_23 G) (aa_26 G) (N := 8) hl.1.symm tw_334 tw_336 tw_335 tw_15 (by decide) (by decide) (by decide) (by decide) (by decide) (Nat.le_of_ble_eq_true rfl) dX7_keepTrial_15 (fun H locs hH => ?_)
  have hH : Hs G τ1 s H locs := by rw [eτ1]; exact hH
  refine lv_aload_n hx hb dX7_keepTrial_18 rfl (lv_at hl 0 rfl) ?_
  refine lv_aload_n hx hb dX7_keepTrial_19 rfl (lv_at hl 0 rfl) ?_
  refine g_get X hH (fa_21_3 G) tw_123 dX7_keepTrial_20 ?_
  obtain ⟨τ2, eτ2, hf⟩ := e_l hf
  refine g_put X hH (fp_21_4 G) tw_124 rfl rfl dX7_keepTrial_23 (fun H locs hH => ?_)
  have hH : Hs G τ2 s H locs := by rw [eτ2]; exact hH
  exact r_v X hH hf dX7_keepTrial_26
theorem c_Sk_keepTrial_21 (l : Launch) (G : GT) {N : Nat} {τ υ : Hp} {r : Int32} (hf : f_Sk_keepTrial N 21 τ = some (r, υ)) : MV l G yX7_keepTrial cX7_keepTrial 1 1 40 [.ref (aG G 21)] τ υ := mk_V (by decide) (Nat.le_of_ble_eq_true rfl) (fun p e s m args below meth c X hH ls hl => b_Sk_keepTrial_21_0 (N := N) X hH (lv_sub hl [0] rfl) hf)
set_option maxHeartbeats 4000000 in
set_option maxRecDepth 100000 in
theorem b_Sk_goOn_21_0 {l : Launch} {G : GT} {N : Nat} {p : Program} {e : Env} {s : State} {m : MethodId} {args : Array Value} {below : List Frame} {meth : Method} {c : Code} (X : Cx G p s m args meth c cX7_goOn 3 RX7 (some .int)) {r : Int32} {υ : Hp} {τ : Hp} {v1 v2 : Int32} {H : Heap} {locs : List Loc} {ls : Array Slot} (hH : Hs G τ s H locs) (hl : lv_has ls 3 [(0, .ref (aG G 21)), (1, .int v1), (2, .int v2)]) (hf : f_Sk_goOn N 21 τ v1 v2 = some (r, υ)) : WI l G (rmG 2 60) p e s m args below meth c r υ H locs (F0 m 0 ls []) := by
  have hx := X.hx
  have hb := X.hb
  unfold f_Sk_goOn at hf
  refine lv_iload_n hx hb dX7_goOn_0 rfl (lv_at hl 1 rfl) ?_
  refine lv_iconst (v := 1) hx hb dX7_goOn_1 (by decide) ?_
  refine lv_iadd hx hb dX7_goOn_2 ?_
  refine lv_iload_n hx hb dX7_goOn_3 rfl (lv_at hl 2 rfl) ?_
  refine lv_icmp_lt (tgt := 13) hx hb dX7_goOn_4 (by decide) (fun c1 => ?_) (fun c1 => ?_)
  · have hf := e_t c1 hf
    refine lv_aload_n hx hb dX7_goOn_13 rfl (lv_at hl 0 rfl) ?_
    refine g_get X hH (fa_21_1 G) tw_121 dX7_goOn_14 ?_
    refine lv_iload_n hx hb dX7_goOn_17 rfl (lv_at hl 1 rfl) ?_
    refine lv_iconst (v := 1) hx hb dX7_goOn_18 (by decide) ?_
    refine lv_iadd hx hb dX7_goOn_19 ?_
    refine lv_aload_n hx hb dX7_goOn_20 rfl (lv_at hl 0 rfl) ?_
    refine g_get X hH (fa_21_1 G) tw_121 dX7_goOn_21 ?_
    refine lv_iload_n hx hb dX7_goOn_24 rfl (lv_at hl 1 rfl) ?_
    obtain ⟨g2, hf⟩ := e_g hf
    refine a_ld X hH (aa_25 G) g2 dX7_goOn_25 ?_
    refine lv_aload_n hx hb dX7_goOn_26 rfl (lv_at hl 0 rfl) ?_
    refine g_get X hH (fa_21_0 G) tw_120 dX7_goOn_27 ?_
    refine g_getN X hH (fa_22_0 G) 22 rfl dX7_goOn_30 ?_
    refine lv_iload_n hx hb dX7_goOn_33 rfl (lv_at hl 1 rfl) ?_
    obtain ⟨g3, hf⟩ := e_g hf
    refine a_ld X hH (aa_23 G) g3 dX7_goOn_34 ?_
    refine lv_iconst (v := 1) hx hb dX7_goOn_35 (by decide) ?_
    refine lv_iadd hx hb dX7_goOn_36 ?_
    refine g_max X hl.1.symm tw_337 tw_338 tw_16 tw_339 (by decide) (Nat.le_of_ble_eq_true rfl) ⟨Nat.zero_le _, Nat.zero_le _⟩ dX7_goOn_37 ?_
    obtain ⟨g4, hf⟩ := e_g hf
    obtain ⟨τ5, eτ5, hf⟩ := e_l hf
    refine a_st X hH (aa_25 G) g4 dX7_goOn_40 (fun H locs hH => ?_)
    have hH : Hs G τ5 s H locs := by rw [eτ5]; exact hH
    refine lv_iload_n hx hb dX7_goOn_41 rfl (lv_at hl 1 rfl) ?_
    refine lv_iconst (v := 1) hx hb dX7_goOn_42 (by decide) ?_
    refine lv_iadd hx hb dX7_goOn_43 ?_
    exact r_i X hH hf dX7_goOn_44
  · have hf := e_f c1 hf
    refine lv_aload_n hx hb dX7_goOn_7 rfl (lv_at hl 0 rfl) ?_
    obtain ⟨r6, τ7, hc8, hf⟩ := e_b hf
    refine c_Vv X hH (k := 21) (n := 0) (As := []) (rest := []) (c_Sk_keepTrial_21 l G (N := N) hc8) (by decide) rfl rfl tw_333 tw_331 tw_332 tw_761 tw_9 (by decide +kernel) ⟨by decide, by decide⟩ rfl hl.1 rfl (Nat.le_of_ble_eq_true rfl) ⟨Nat.zero_le _, Nat.zero_le _⟩ dX7_goOn_8 (fun H locs hH => ?_)
    refine lv_iload_n hx hb dX7_goOn_11 rfl (lv_at hl 1 rfl) ?_
    exact r_i X hH hf dX7_goOn_12
theorem c_Sk_goOn_21 (l : Launch) (G : GT) {N : Nat} {τ υ : Hp} {v1 v2 : Int32} {r : Int32} (hf : f_Sk_goOn N 21 τ v1 v2 = some (r, υ)) : MI l G yX7_goOn cX7_goOn 3 (some .int) 2 60 [.ref (aG G 21), .int v1, .int v2] τ r υ := mk_I (by decide) (Nat.le_of_ble_eq_true rfl) (fun p e s m args below meth c X hH ls hl => b_Sk_goOn_21_0 (N := N) X hH (lv_sub hl [0, 1, 2] rfl) hf)
set_option maxHeartbeats 4000000 in
set_option maxRecDepth 100000 in
theorem b_Nd_total_18_4b {l : Launch} {G : GT} {N : Nat} {p : Program} {e : Env} {s : State} {m : MethodId} {args : Array Value} {below : List Frame} {meth : Method} {c : Code} (X : Cx G p s m args meth c cX3_total 3 RX3 (some .int)) {r : Int32} {υ : Hp} {k4 : Hp → Int32 → Int32 → OR} (hk4 : ∀ (τ : Hp) (v1 v2 : Int32) (H : Heap) (locs : List Loc) (ls : Array Slot), Hs G τ s H locs → lv_has ls 3 [(0, .ref (aG G 18)), (1, .int v1), (2, .int v2)] → k4 τ v1 v2 = some (r, υ) → WI l G (rmG 1 20) p e s m args below meth c r υ H locs (F0 m 4 ls [])) {τ : Hp} {v1 v2 : Int32} {H : Heap} {locs : List Loc} {ls : Array Slot} (hH : Hs G τ s H locs) (hl : lv_has ls 3 [(0, .ref (aG G 18)), (1, .int v1), (2, .int v2)]) (hf : f_Nd_total_L4b N 18 k4 τ v1 v2 = some (r, υ)) : WI l G (rmG 1 20) p e s m args below meth c r υ H locs (F0 m 4 ls []) := by
  have hx := X.hx
  have hb := X.hb
  unfold f_Nd_total_L4b at hf
  refine lv_iload_n hx hb dX3_total_4 rfl (lv_at hl 2 rfl) ?_
  refine lv_bipush (v := 64) hx hb dX3_total_5 (by decide) ?_
  refine lv_icmp_ge (tgt := 28) hx hb dX3_total_7 (by decide) (fun c1 => ?_) (fun c1 => ?_)
  · have hf := e_t c1 hf
    refine lv_iload_n hx hb dX3_total_28 rfl (lv_at hl 1 rfl) ?_
    exact r_i X hH hf dX3_total_29
  · have hf := e_f c1 hf
    refine lv_iload_n hx hb dX3_total_10 rfl (lv_at hl 1 rfl) ?_
    refine lv_aload_n hx hb dX3_total_11 rfl (lv_at hl 0 rfl) ?_
    refine g_get X hH (fa_18_0 G) tw_96 dX3_total_12 ?_
    refine lv_iload_n hx hb dX3_total_15 rfl (lv_at hl 2 rfl) ?_
    obtain ⟨g2, hf⟩ := e_g hf
    refine a_ld X hH (aa_19 G) g2 dX3_total_16 ?_
    obtain ⟨r3, τ4, hc5, hf⟩ := e_b hf
    refine c_Si X hH (n := 1) (As := [.int _]) (rest := [.int _]) (c_Jb_bitCount l G (N := N) hc5) tw_297 tw_295 tw_296 tw_14 (by decide +kernel) ⟨by decide, by decide⟩ rfl hl.1 rfl (Nat.le_of_ble_eq_true rfl) ⟨Nat.zero_le _, Nat.zero_le _⟩ dX3_total_17 (fun H locs hH => ?_)
    refine lv_iadd hx hb dX3_total_20 ?_
    obtain ⟨x6, ex6, hf⟩ := e_l hf
    refine g_nm ex6 ?_
    refine lv_istore_n (lv' := [(1, .int x6), (0, .ref (aG G 18)), (2, .int v2)]) hx hb dX3_total_21 rfl hl (by decide) rfl (fun ls hl => ?_)
    obtain ⟨x7, ex7, hf⟩ := e_l hf
    refine lv_iinc (v := x7) (lv' := [(2, .int x7), (1, .int x6), (0, .ref (aG G 18))]) hx hb dX3_total_22 hl (k := 2) rfl (by rw [ex7]; rfl) (by decide) rfl (fun ls hl => ?_)
    refine lv_goto (tgt := 4) hx hb dX3_total_25 (by decide) ?_
    exact hk4 _ _ _ _ _ _ hH (lv_sub hl [2, 1, 0] rfl) hf
theorem b_Nd_total_18_4 {l : Launch} {G : GT} {N : Nat} {p : Program} {e : Env} {s : State} {m : MethodId} {args : Array Value} {below : List Frame} {meth : Method} {c : Code} (X : Cx G p s m args meth c cX3_total 3 RX3 (some .int)) {r : Int32} {υ : Hp} : ∀ (n : Nat) (τ : Hp) (v1 v2 : Int32) (H : Heap) (locs : List Loc) (ls : Array Slot), Hs G τ s H locs → lv_has ls 3 [(0, .ref (aG G 18)), (1, .int v1), (2, .int v2)] → f_Nd_total_L4 N 18 n τ v1 v2 = some (r, υ) → WI l G (rmG 1 20) p e s m args below meth c r υ H locs (F0 m 4 ls []) := by
  intro n
  induction n with
  | zero => intro τ v1 v2 H locs ls hH hl hf; exact nomatch (show (none : OR) = some (r, υ) from hf)
  | succ n ih => intro τ v1 v2 H locs ls hH hl hf; exact b_Nd_total_18_4b (N := N) X ih hH hl hf
set_option maxHeartbeats 4000000 in
set_option maxRecDepth 100000 in
theorem b_Nd_total_18_0 {l : Launch} {G : GT} {N : Nat} {p : Program} {e : Env} {s : State} {m : MethodId} {args : Array Value} {below : List Frame} {meth : Method} {c : Code} (X : Cx G p s m args meth c cX3_total 3 RX3 (some .int)) {r : Int32} {υ : Hp} {τ : Hp} {H : Heap} {locs : List Loc} {ls : Array Slot} (hH : Hs G τ s H locs) (hl : lv_has ls 3 [(0, .ref (aG G 18))]) (hf : f_Nd_total N 18 τ = some (r, υ)) : WI l G (rmG 1 20) p e s m args below meth c r υ H locs (F0 m 0 ls []) := by
  have hx := X.hx
  have hb := X.hb
  unfold f_Nd_total at hf
  refine lv_iconst (v := 0) hx hb dX3_total_0 (by decide) ?_
  refine lv_istore_n (lv' := [(1, .int 0), (0, .ref (aG G 18))]) hx hb dX3_total_1 rfl hl (by decide) rfl (fun ls hl => ?_)
  refine lv_iconst (v := 0) hx hb dX3_total_2 (by decide) ?_
  refine lv_istore_n (lv' := [(2, .int 0), (1, .int 0), (0, .ref (aG G 18))]) hx hb dX3_total_3 rfl hl (by decide) rfl (fun ls hl => ?_)
  exact b_Nd_total_18_4 (N := N) X _ _ _ _ _ _ _ hH (lv_sub hl [2, 1, 0] rfl) hf
theorem c_Nd_total_18 (l : Launch) (G : GT) {N : Nat} {τ υ : Hp} {r : Int32} (hf : f_Nd_total N 18 τ = some (r, υ)) : MI l G yX3_total cX3_total 3 (some .int) 1 20 [.ref (aG G 18)] τ r υ := mk_I (by decide) (Nat.le_of_ble_eq_true rfl) (fun p e s m args below meth c X hH ls hl => b_Nd_total_18_0 (N := N) X hH (lv_sub hl [0] rfl) hf)
set_option maxHeartbeats 4000000 in
set_option maxRecDepth 100000 in
theorem b_Jf_fill_23_5b {l : Launch} {G : GT} {N : Nat} {p : Program} {e : Env} {s : State} {m : MethodId} {args : Array Value} {below : List Frame} {meth : Method} {c : Code} (X : Cx G p s m args meth c cJ7_fill_53178 4 RJ7 none) {r : Int32} {υ : Hp} {k5 : Hp → Int32 → Int32 → Int32 → OR} (hk5 : ∀ (τ : Hp) (v1 v2 v3 : Int32) (H : Heap) (locs : List Loc) (ls : Array Slot), Hs G τ s H locs → lv_has ls 4 [(0, .ref (aG G 23)), (1, .int v1), (2, .int v2), (3, .int v3)] → k5 τ v1 v2 v3 = some (r, υ) → WV l G (rmG 0 0) p e s m args below meth c υ H locs (F0 m 5 ls [])) {τ : Hp} {v1 v2 v3 : Int32} {H : Heap} {locs : List Loc} {ls : Array Slot} (hH : Hs G τ s H locs) (hl : lv_has ls 4 [(0, .ref (aG G 23)), (1, .int v1), (2, .int v2), (3, .int v3)]) (hf : f_Jf_fill_L5b N 23 k5 τ v1 v2 v3 = some (r, υ)) : WV l G (rmG 0 0) p e s m args below meth c υ H locs (F0 m 5 ls []) := by
  have hx := X.hx
  have hb := X.hb
  unfold f_Jf_fill_L5b at hf
  refine lv_iload_n hx hb dJ7_fill_53178_5 rfl (lv_at hl 2 rfl) ?_
  refine lv_iload_n hx hb dJ7_fill_53178_6 rfl (lv_at hl 3 rfl) ?_
  refine lv_icmp_ge (tgt := 20) hx hb dJ7_fill_53178_7 (by decide) (fun c1 => ?_) (fun c1 => ?_)
  · have hf := e_t c1 hf
    exact r_v X hH hf dJ7_fill_53178_20
  · have hf := e_f c1 hf
    refine lv_aload_n hx hb dJ7_fill_53178_10 rfl (lv_at hl 0 rfl) ?_
    refine lv_iload_n hx hb dJ7_fill_53178_11 rfl (lv_at hl 2 rfl) ?_
    refine lv_iload_n hx hb dJ7_fill_53178_12 rfl (lv_at hl 1 rfl) ?_
    obtain ⟨g2, hf⟩ := e_g hf
    obtain ⟨τ3, eτ3, hf⟩ := e_l hf
    refine a_st X hH (aa_23 G) g2 dJ7_fill_53178_13 (fun H locs hH => ?_)
    have hH : Hs G τ3 s H locs := by rw [eτ3]; exact hH
    obtain ⟨x4, ex4, hf⟩ := e_l hf
    refine lv_iinc (v := x4) (lv' := [(2, .int x4), (0, .ref (aG G 23)), (1, .int v1), (3, .int v3)]) hx hb dJ7_fill_53178_14 hl (k := 2) rfl (by rw [ex4]; rfl) (by decide) rfl (fun ls hl => ?_)
    refine lv_goto (tgt := 5) hx hb dJ7_fill_53178_17 (by decide) ?_
    exact hk5 _ _ _ _ _ _ _ hH (lv_sub hl [1, 2, 0, 3] rfl) hf
theorem b_Jf_fill_23_5 {l : Launch} {G : GT} {N : Nat} {p : Program} {e : Env} {s : State} {m : MethodId} {args : Array Value} {below : List Frame} {meth : Method} {c : Code} (X : Cx G p s m args meth c cJ7_fill_53178 4 RJ7 none) {r : Int32} {υ : Hp} : ∀ (n : Nat) (τ : Hp) (v1 v2 v3 : Int32) (H : Heap) (locs : List Loc) (ls : Array Slot), Hs G τ s H locs → lv_has ls 4 [(0, .ref (aG G 23)), (1, .int v1), (2, .int v2), (3, .int v3)] → f_Jf_fill_L5 N 23 n τ v1 v2 v3 = some (r, υ) → WV l G (rmG 0 0) p e s m args below meth c υ H locs (F0 m 5 ls []) := by
  intro n
  induction n with
  | zero => intro τ v1 v2 v3 H locs ls hH hl hf; exact nomatch (show (none : OR) = some (r, υ) from hf)
  | succ n ih => intro τ v1 v2 v3 H locs ls hH hl hf; exact b_Jf_fill_23_5b (N := N) X ih hH hl hf
set_option maxHeartbeats 4000000 in
set_option maxRecDepth 100000 in
theorem b_Jf_fill_23_0 {l : Launch} {G : GT} {N : Nat} {p : Program} {e : Env} {s : State} {m : MethodId} {args : Array Value} {below : List Frame} {meth : Method} {c : Code} (X : Cx G p s m args meth c cJ7_fill_53178 4 RJ7 none) {r : Int32} {υ : Hp} {τ : Hp} {v1 : Int32} {H : Heap} {locs : List Loc} {ls : Array Slot} (hH : Hs G τ s H locs) (hl : lv_has ls 4 [(0, .ref (aG G 23)), (1, .int v1)]) (hf : f_Jf_fill N 23 τ v1 = some (r, υ)) : WV l G (rmG 0 0) p e s m args below meth c υ H locs (F0 m 0 ls []) := by
  have hx := X.hx
  have hb := X.hb
  unfold f_Jf_fill at hf
  refine lv_iconst (v := 0) hx hb dJ7_fill_53178_0 (by decide) ?_
  refine lv_istore_n (lv' := [(2, .int 0), (0, .ref (aG G 23)), (1, .int v1)]) hx hb dJ7_fill_53178_1 rfl hl (by decide) rfl (fun ls hl => ?_)
  refine lv_aload_n hx hb dJ7_fill_53178_2 rfl (lv_at hl 1 rfl) ?_
  refine a_len X hH (aa_23 G) dJ7_fill_53178_3 ?_
  obtain ⟨x1, ex1, hf⟩ := e_l hf
  refine g_nm ex1 ?_
  refine lv_istore_n (lv' := [(3, .int x1), (2, .int 0), (0, .ref (aG G 23)), (1, .int v1)]) hx hb dJ7_fill_53178_4 rfl hl (by decide) rfl (fun ls hl => ?_)
  exact b_Jf_fill_23_5 (N := N) X _ _ _ _ _ _ _ _ hH (lv_sub hl [2, 3, 1, 0] rfl) hf
theorem c_Jf_fill_23 (l : Launch) (G : GT) {N : Nat} {τ υ : Hp} {v1 : Int32} {r : Int32} (hf : f_Jf_fill N 23 τ v1 = some (r, υ)) : MV l G yJ7_fill_53178 cJ7_fill_53178 4 0 0 [.ref (aG G 23), .int v1] τ υ := mk_V (by decide) (Nat.le_of_ble_eq_true rfl) (fun p e s m args below meth c X hH ls hl => b_Jf_fill_23_0 (N := N) X hH (lv_sub hl [0, 1] rfl) hf)
set_option maxHeartbeats 4000000 in
set_option maxRecDepth 100000 in
theorem b_Jf_fill_26_5b {l : Launch} {G : GT} {N : Nat} {p : Program} {e : Env} {s : State} {m : MethodId} {args : Array Value} {below : List Frame} {meth : Method} {c : Code} (X : Cx G p s m args meth c cJ7_fill_53178 4 RJ7 none) {r : Int32} {υ : Hp} {k5 : Hp → Int32 → Int32 → Int32 → OR} (hk5 : ∀ (τ : Hp) (v1 v2 v3 : Int32) (H : Heap) (locs : List Loc) (ls : Array Slot), Hs G τ s H locs → lv_has ls 4 [(0, .ref (aG G 26)), (1, .int v1), (2, .int v2), (3, .int v3)] → k5 τ v1 v2 v3 = some (r, υ) → WV l G (rmG 0 0) p e s m args below meth c υ H locs (F0 m 5 ls [])) {τ : Hp} {v1 v2 v3 : Int32} {H : Heap} {locs : List Loc} {ls : Array Slot} (hH : Hs G τ s H locs) (hl : lv_has ls 4 [(0, .ref (aG G 26)), (1, .int v1), (2, .int v2), (3, .int v3)]) (hf : f_Jf_fill_L5b N 26 k5 τ v1 v2 v3 = some (r, υ)) : WV l G (rmG 0 0) p e s m args below meth c υ H locs (F0 m 5 ls []) := by
  have hx := X.hx
  have hb := X.hb
  unfold f_Jf_fill_L5b at hf
  refine lv_iload_n hx hb dJ7_fill_53178_5 rfl (lv_at hl 2 rfl) ?_
  refine lv_iload_n hx hb dJ7_fill_53178_6 rfl (lv_at hl 3 rfl) ?_
  refine lv_icmp_ge (tgt := 20) hx hb dJ7_fill_53178_7 (by decide) (fun c1 => ?_) (fun c1 => ?_)
  · have hf := e_t c1 hf
    exact r_v X hH hf dJ7_fill_53178_20
  · have hf := e_f c1 hf
    refine lv_aload_n hx hb dJ7_fill_53178_10 rfl (lv_at hl 0 rfl) ?_
    refine lv_iload_n hx hb dJ7_fill_53178_11 rfl (lv_at hl 2 rfl) ?_
    refine lv_iload_n hx hb dJ7_fill_53178_12 rfl (lv_at hl 1 rfl) ?_
    obtain ⟨g2, hf⟩ := e_g hf
    obtain ⟨τ3, eτ3, hf⟩ := e_l hf
    refine a_st X hH (aa_26 G) g2 dJ7_fill_53178_13 (fun H locs hH => ?_)
    have hH : Hs G τ3 s H locs := by rw [eτ3]; exact hH
    obtain ⟨x4, ex4, hf⟩ := e_l hf
    refine lv_iinc (v := x4) (lv' := [(2, .int x4), (0, .ref (aG G 26)), (1, .int v1), (3, .int v3)]) hx hb dJ7_fill_53178_14 hl (k := 2) rfl (by rw [ex4]; rfl) (by decide) rfl (fun ls hl => ?_)
    refine lv_goto (tgt := 5) hx hb dJ7_fill_53178_17 (by decide) ?_
    exact hk5 _ _ _ _ _ _ _ hH (lv_sub hl [1, 2, 0, 3] rfl) hf
theorem b_Jf_fill_26_5 {l : Launch} {G : GT} {N : Nat} {p : Program} {e : Env} {s : State} {m : MethodId} {args : Array Value} {below : List Frame} {meth : Method} {c : Code} (X : Cx G p s m args meth c cJ7_fill_53178 4 RJ7 none) {r : Int32} {υ : Hp} : ∀ (n : Nat) (τ : Hp) (v1 v2 v3 : Int32) (H : Heap) (locs : List Loc) (ls : Array Slot), Hs G τ s H locs → lv_has ls 4 [(0, .ref (aG G 26)), (1, .int v1), (2, .int v2), (3, .int v3)] → f_Jf_fill_L5 N 26 n τ v1 v2 v3 = some (r, υ) → WV l G (rmG 0 0) p e s m args below meth c υ H locs (F0 m 5 ls []) := by
  intro n
  induction n with
  | zero => intro τ v1 v2 v3 H locs ls hH hl hf; exact nomatch (show (none : OR) = some (r, υ) from hf)
  | succ n ih => intro τ v1 v2 v3 H locs ls hH hl hf; exact b_Jf_fill_26_5b (N := N) X ih hH hl hf
set_option maxHeartbeats 4000000 in
set_option maxRecDepth 100000 in
theorem b_Jf_fill_26_0 {l : Launch} {G : GT} {N : Nat} {p : Program} {e : Env} {s : State} {m : MethodId} {args : Array Value} {below : List Frame} {meth : Method} {c : Code} (X : Cx G p s m args meth c cJ7_fill_53178 4 RJ7 none) {r : Int32} {υ : Hp} {τ : Hp} {v1 : Int32} {H : Heap} {locs : List Loc} {ls : Array Slot} (hH : Hs G τ s H locs) (hl : lv_has ls 4 [(0, .ref (aG G 26)), (1, .int v1)]) (hf : f_Jf_fill N 26 τ v1 = some (r, υ)) : WV l G (rmG 0 0) p e s m args below meth c υ H locs (F0 m 0 ls []) := by
  have hx := X.hx
  have hb := X.hb
  unfold f_Jf_fill at hf
  refine lv_iconst (v := 0) hx hb dJ7_fill_53178_0 (by decide) ?_
  refine lv_istore_n (lv' := [(2, .int 0), (0, .ref (aG G 26)), (1, .int v1)]) hx hb dJ7_fill_53178_1 rfl hl (by decide) rfl (fun ls hl => ?_)
  refine lv_aload_n hx hb dJ7_fill_53178_2 rfl (lv_at hl 1 rfl) ?_
  refine a_len X hH (aa_26 G) dJ7_fill_53178_3 ?_
  obtain ⟨x1, ex1, hf⟩ := e_l hf
  refine g_nm ex1 ?_
  refine lv_istore_n (lv' := [(3, .int x1), (2, .int 0), (0, .ref (aG G 26)), (1, .int v1)]) hx hb dJ7_fill_53178_4 rfl hl (by decide) rfl (fun ls hl => ?_)
  exact b_Jf_fill_26_5 (N := N) X _ _ _ _ _ _ _ _ hH (lv_sub hl [2, 3, 1, 0] rfl) hf
theorem c_Jf_fill_26 (l : Launch) (G : GT) {N : Nat} {τ υ : Hp} {v1 : Int32} {r : Int32} (hf : f_Jf_fill N 26 τ v1 = some (r, υ)) : MV l G yJ7_fill_53178 cJ7_fill_53178 4 0 0 [.ref (aG G 26), .int v1] τ υ := mk_V (by decide) (Nat.le_of_ble_eq_true rfl) (fun p e s m args below meth c X hH ls hl => b_Jf_fill_26_0 (N := N) X hH (lv_sub hl [0, 1] rfl) hf)
set_option maxHeartbeats 4000000 in
set_option maxRecDepth 100000 in
theorem b_Sk_seekRooms_21_1_5_18_47b {l : Launch} {G : GT} {N : Nat} {p : Program} {e : Env} {s : State} {m : MethodId} {args : Array Value} {below : List Frame} {meth : Method} {c : Code} (X : Cx G p s m args meth c cX7_seekRooms 6 RX7 none) {r : Int32} {υ : Hp} {k47 : Hp → Int32 → Int32 → OR} (hk47 : ∀ (τ : Hp) (v4 v5 : Int32) (H : Heap) (locs : List Loc) (ls : Array Slot), Hs G τ s H locs → lv_has ls 6 [(0, .ref (aG G 21)), (1, .ref (aG G 1)), (2, .ref (aG G 5)), (3, .ref (aG G 18)), (4, .int v4), (5, .int v5)] → k47 τ v4 v5 = some (r, υ) → WV l G (rmG 4 98) p e s m args below meth c υ H locs (F0 m 47 ls [])) {τ : Hp} {v4 v5 : Int32} {H : Heap} {locs : List Loc} {ls : Array Slot} (hH : Hs G τ s H locs) (hl : lv_has ls 6 [(0, .ref (aG G 21)), (1, .ref (aG G 1)), (2, .ref (aG G 5)), (3, .ref (aG G 18)), (4, .int v4), (5, .int v5)]) (hf : f_Sk_seekRooms_L47b N 21 1 5 18 k47 τ v4 v5 = some (r, υ)) : WV l G (rmG 4 98) p e s m args below meth c υ H locs (F0 m 47 ls []) := by
  have hx := X.hx
  have hb := X.hb
  unfold f_Sk_seekRooms_L47b at hf
  refine lv_iload hx hb dX7_seekRooms_47 (lv_at hl 5 rfl) ?_
  refine lv_ldc X.hx X.hb X.hown (X.hts _ tw_306) dX7_seekRooms_49 ?_
  refine lv_icmp_ge (tgt := 144) hx hb dX7_seekRooms_51 (by decide) (fun c1 => ?_) (fun c1 => ?_)
  · have hf := e_t c1 hf
    exact r_v X hH hf dX7_seekRooms_144
  · have hf := e_f c1 hf
    refine lv_iload hx hb dX7_seekRooms_54 (lv_at hl 4 rfl) ?_
    refine lv_if_lt (tgt := 144) hx hb dX7_seekRooms_56 (by decide) (fun c2 => ?_) (fun c2 => ?_)
    · have hf := e_t c2 hf
      exact r_v X hH hf dX7_seekRooms_144
    · have hf := e_f c2 hf
      refine lv_aload_n hx hb dX7_seekRooms_59 rfl (lv_at hl 0 rfl) ?_
      refine g_get X hH (fa_21_0 G) tw_120 dX7_seekRooms_60 ?_
      refine g_getN X hH (fa_22_0 G) 22 rfl dX7_seekRooms_63 ?_
      refine lv_iload hx hb dX7_seekRooms_66 (lv_at hl 4 rfl) ?_
      refine lv_dup2_11 hx hb dX7_seekRooms_68 rfl rfl ?_
      obtain ⟨g3, hf⟩ := e_g hf
      refine a_ld X hH (aa_23 G) g3 dX7_seekRooms_69 ?_
      refine lv_iconst (v := 1) hx hb dX7_seekRooms_70 (by decide) ?_
      refine lv_iadd hx hb dX7_seekRooms_71 ?_
      obtain ⟨g4, hf⟩ := e_g hf
      obtain ⟨τ5, eτ5, hf⟩ := e_l hf
      refine a_st X hH (aa_23 G) g4 dX7_seekRooms_72 (fun H locs hH => ?_)
      have hH : Hs G τ5 s H locs := by rw [eτ5]; exact hH
      refine lv_aload_n hx hb dX7_seekRooms_73 rfl (lv_at hl 0 rfl) ?_
      refine g_get X hH (fa_21_0 G) tw_120 dX7_seekRooms_74 ?_
      refine g_getN X hH (fa_22_0 G) 22 rfl dX7_seekRooms_77 ?_
      refine lv_iload hx hb dX7_seekRooms_80 (lv_at hl 4 rfl) ?_
      obtain ⟨g6, hf⟩ := e_g hf
      refine a_ld X hH (aa_23 G) g6 dX7_seekRooms_82 ?_
      refine lv_aload_n hx hb dX7_seekRooms_83 rfl (lv_at hl 0 rfl) ?_
      refine g_get X hH (fa_21_1 G) tw_121 dX7_seekRooms_84 ?_
      refine lv_iload hx hb dX7_seekRooms_87 (lv_at hl 4 rfl) ?_
      obtain ⟨g7, hf⟩ := e_g hf
      refine a_ld X hH (aa_25 G) g7 dX7_seekRooms_89 ?_
      refine lv_icmp_le (tgt := 110) hx hb dX7_seekRooms_90 (by decide) (fun c8 => ?_) (fun c8 => ?_)
      · have hf := e_t c8 hf
        refine lv_aload_n hx hb dX7_seekRooms_110 rfl (lv_at hl 0 rfl) ?_
        refine lv_iload hx hb dX7_seekRooms_111 (lv_at hl 4 rfl) ?_
        refine lv_iload hx hb dX7_seekRooms_113 (lv_at hl 4 rfl) ?_
        refine lv_iconst (v := 1) hx hb dX7_seekRooms_115 (by decide) ?_
        refine lv_iadd hx hb dX7_seekRooms_116 ?_
        refine lv_aload_n hx hb dX7_seekRooms_117 rfl (lv_at hl 1 rfl) ?_
        refine lv_aload_n hx hb dX7_seekRooms_118 rfl (lv_at hl 2 rfl) ?_
        refine lv_aload_n hx hb dX7_seekRooms_119 rfl (lv_at hl 3 rfl) ?_
        obtain ⟨r9, τ10, hc11, hf⟩ := e_b hf
        refine c_Vi X hH (k := 21) (n := 5) (As := [.int _, .int _, .ref (aG G 1), .ref (aG G 5), .ref (aG G 18)]) (rest := []) (c_Sk_isCheaper_21_1_5_18 l G (N := N) hc11) (by decide) rfl rfl tw_309 tw_307 tw_308 tw_756 tw_9 (by decide +kernel) ⟨by decide, by decide⟩ rfl hl.1 rfl (Nat.le_of_ble_eq_true rfl) ⟨Nat.zero_le _, Nat.zero_le _⟩ dX7_seekRooms_120 (fun H locs hH => ?_)
        refine lv_if_eq (tgt := 138) hx hb dX7_seekRooms_123 (by decide) (fun c12 => ?_) (fun c12 => ?_)
        · have hf := e_t c12 hf
          obtain ⟨x13, ex13, hf⟩ := e_l hf
          refine lv_iinc (v := x13) (lv' := [(5, .int x13), (0, .ref (aG G 21)), (1, .ref (aG G 1)), (2, .ref (aG G 5)), (3, .ref (aG G 18)), (4, .int v4)]) hx hb dX7_seekRooms_138 hl (k := 5) rfl (by rw [ex13]; rfl) (by decide) rfl (fun ls hl => ?_)
          refine lv_goto (tgt := 47) hx hb dX7_seekRooms_141 (by decide) ?_
          exact hk47 _ _ _ _ _ _ hH (lv_sub hl [1, 2, 3, 4, 5, 0] rfl) hf
        · have hf := e_f c12 hf
          refine lv_aload_n hx hb dX7_seekRooms_126 rfl (lv_at hl 0 rfl) ?_
          refine lv_iload hx hb dX7_seekRooms_127 (lv_at hl 4 rfl) ?_
          refine lv_aload_n hx hb dX7_seekRooms_129 rfl (lv_at hl 1 rfl) ?_
          refine g_getN X hH (fa_1_3 G) 6 rfl dX7_seekRooms_130 ?_
          obtain ⟨r14, τ15, hc16, hf⟩ := e_b hf
          refine c_Vi X hH (k := 21) (n := 2) (As := [.int _, .int _]) (rest := []) (c_Sk_goOn_21 l G (N := N) hc16) (by decide) rfl rfl tw_330 tw_328 tw_329 tw_760 tw_9 (by decide +kernel) ⟨by decide, by decide⟩ rfl hl.1 rfl (Nat.le_of_ble_eq_true rfl) ⟨Nat.zero_le _, Nat.zero_le _⟩ dX7_seekRooms_133 (fun H locs hH => ?_)
          refine lv_istore (lv' := [(4, .int r14), (0, .ref (aG G 21)), (1, .ref (aG G 1)), (2, .ref (aG G 5)), (3, .ref (aG G 18)), (5, .int v5)]) hx hb dX7_seekRooms_136 hl (by decide) rfl (fun ls hl => ?_)
          obtain ⟨x17, ex17, hf⟩ := e_l hf
          refine lv_iinc (v := x17) (lv' := [(5, .int x17), (4, .int r14), (0, .ref (aG G 21)), (1, .ref (aG G 1)), (2, .ref (aG G 5)), (3, .ref (aG G 18))]) hx hb dX7_seekRooms_138 hl (k := 5) rfl (by rw [ex17]; rfl) (by decide) rfl (fun ls hl => ?_)
          refine lv_goto (tgt := 47) hx hb dX7_seekRooms_141 (by decide) ?_
          exact hk47 _ _ _ _ _ _ hH (lv_sub hl [2, 3, 4, 5, 1, 0] rfl) hf
      · have hf := e_f c8 hf
        refine lv_aload_n hx hb dX7_seekRooms_93 rfl (lv_at hl 0 rfl) ?_
        refine g_get X hH (fa_21_0 G) tw_120 dX7_seekRooms_94 ?_
        refine g_getN X hH (fa_22_0 G) 22 rfl dX7_seekRooms_97 ?_
        refine lv_iload hx hb dX7_seekRooms_100 (lv_at hl 4 rfl) ?_
        refine lv_iconst (v := (-1)) hx hb dX7_seekRooms_102 (by decide) ?_
        obtain ⟨g18, hf⟩ := e_g hf
        obtain ⟨τ19, eτ19, hf⟩ := e_l hf
        refine a_st X hH (aa_23 G) g18 dX7_seekRooms_103 (fun H locs hH => ?_)
        have hH : Hs G τ19 s H locs := by rw [eτ19]; exact hH
        obtain ⟨x20, ex20, hf⟩ := e_l hf
        refine lv_iinc (v := x20) (lv' := [(4, .int x20), (0, .ref (aG G 21)), (1, .ref (aG G 1)), (2, .ref (aG G 5)), (3, .ref (aG G 18)), (5, .int v5)]) hx hb dX7_seekRooms_104 hl (k := 4) rfl (by rw [ex20]; rfl) (by decide) rfl (fun ls hl => ?_)
        refine lv_goto (tgt := 138) hx hb dX7_seekRooms_107 (by decide) ?_
        obtain ⟨x21, ex21, hf⟩ := e_l hf
        refine lv_iinc (v := x21) (lv' := [(5, .int x21), (4, .int x20), (0, .ref (aG G 21)), (1, .ref (aG G 1)), (2, .ref (aG G 5)), (3, .ref (aG G 18))]) hx hb dX7_seekRooms_138 hl (k := 5) rfl (by rw [ex21]; rfl) (by decide) rfl (fun ls hl => ?_)
        refine lv_goto (tgt := 47) hx hb dX7_seekRooms_141 (by decide) ?_
        exact hk47 _ _ _ _ _ _ hH (lv_sub hl [2, 3, 4, 5, 1, 0] rfl) hf
theorem b_Sk_seekRooms_21_1_5_18_47 {l : Launch} {G : GT} {N : Nat} {p : Program} {e : Env} {s : State} {m : MethodId} {args : Array Value} {below : List Frame} {meth : Method} {c : Code} (X : Cx G p s m args meth c cX7_seekRooms 6 RX7 none) {r : Int32} {υ : Hp} : ∀ (n : Nat) (τ : Hp) (v4 v5 : Int32) (H : Heap) (locs : List Loc) (ls : Array Slot), Hs G τ s H locs → lv_has ls 6 [(0, .ref (aG G 21)), (1, .ref (aG G 1)), (2, .ref (aG G 5)), (3, .ref (aG G 18)), (4, .int v4), (5, .int v5)] → f_Sk_seekRooms_L47 N 21 1 5 18 n τ v4 v5 = some (r, υ) → WV l G (rmG 4 98) p e s m args below meth c υ H locs (F0 m 47 ls []) := by
  intro n
  induction n with
  | zero => intro τ v4 v5 H locs ls hH hl hf; exact nomatch (show (none : OR) = some (r, υ) from hf)
  | succ n ih => intro τ v4 v5 H locs ls hH hl hf; exact b_Sk_seekRooms_21_1_5_18_47b (N := N) X ih hH hl hf
set_option maxHeartbeats 4000000 in
set_option maxRecDepth 100000 in
theorem b_Sk_seekRooms_21_1_5_18_0 {l : Launch} {G : GT} {N : Nat} {p : Program} {e : Env} {s : State} {m : MethodId} {args : Array Value} {below : List Frame} {meth : Method} {c : Code} (X : Cx G p s m args meth c cX7_seekRooms 6 RX7 none) {r : Int32} {υ : Hp} {τ : Hp} {H : Heap} {locs : List Loc} {ls : Array Slot} (hH : Hs G τ s H locs) (hl : lv_has ls 6 [(0, .ref (aG G 21)), (1, .ref (aG G 1)), (2, .ref (aG G 5)), (3, .ref (aG G 18))]) (hf : f_Sk_seekRooms N 21 1 5 18 τ = some (r, υ)) : WV l G (rmG 4 98) p e s m args below meth c υ H locs (F0 m 0 ls []) := by
  have hx := X.hx
  have hb := X.hb
  unfold f_Sk_seekRooms at hf
  refine lv_aload_n hx hb dX7_seekRooms_0 rfl (lv_at hl 0 rfl) ?_
  refine lv_aload_n hx hb dX7_seekRooms_1 rfl (lv_at hl 2 rfl) ?_
  refine lv_aload_n hx hb dX7_seekRooms_2 rfl (lv_at hl 3 rfl) ?_
  obtain ⟨r1, τ2, hc3, hf⟩ := e_b hf
  refine c_Vi X hH (k := 18) (n := 0) (As := []) (rest := [.ref (aG G 5), .ref (aG G 21)]) (c_Nd_total_18 l G (N := N) hc3) (by decide) rfl rfl tw_294 tw_291 tw_292 tw_293 tw_8 (by decide +kernel) ⟨by decide, by decide⟩ rfl hl.1 rfl (Nat.le_of_ble_eq_true rfl) ⟨Nat.zero_le _, Nat.zero_le _⟩ dX7_seekRooms_3 (fun H locs hH => ?_)
  refine lv_iconst (v := 0) hx hb dX7_seekRooms_6 (by decide) ?_
  obtain ⟨r4, τ5, hc6, hf⟩ := e_b hf
  refine c_Vi X hH (k := 5) (n := 2) (As := [.int _, .int _]) (rest := [.ref (aG G 21)]) (c_La_costOf_5 l G (N := N) hc6) (by decide) rfl rfl tw_304 tw_301 tw_302 tw_303 tw_3 (by decide +kernel) ⟨by decide, by decide⟩ rfl hl.1 rfl (Nat.le_of_ble_eq_true rfl) ⟨Nat.zero_le _, Nat.zero_le _⟩ dX7_seekRooms_7 (fun H locs hH => ?_)
  refine lv_iconst (v := 1) hx hb dX7_seekRooms_10 (by decide) ?_
  refine lv_iadd hx hb dX7_seekRooms_11 ?_
  obtain ⟨τ7, eτ7, hf⟩ := e_l hf
  refine g_put X hH (fp_21_4 G) tw_124 rfl rfl dX7_seekRooms_12 (fun H locs hH => ?_)
  have hH : Hs G τ7 s H locs := by rw [eτ7]; exact hH
  refine lv_aload_n hx hb dX7_seekRooms_15 rfl (lv_at hl 0 rfl) ?_
  refine g_get X hH (fa_21_0 G) tw_120 dX7_seekRooms_16 ?_
  refine g_getN X hH (fa_22_0 G) 22 rfl dX7_seekRooms_19 ?_
  refine lv_iconst (v := (-1)) hx hb dX7_seekRooms_22 (by decide) ?_
  obtain ⟨r8, τ9, hc10, hf⟩ := e_b hf
  refine c_Sv X hH (n := 2) (As := [.ref (aG G 23), .int _]) (rest := []) (c_Jf_fill_23 l G (N := N) hc10) tw_80 tw_305 tw_79 tw_7 (by decide +kernel) ⟨by decide, by decide⟩ rfl hl.1 rfl (Nat.le_of_ble_eq_true rfl) ⟨Nat.zero_le _, Nat.zero_le _⟩ dX7_seekRooms_23 (fun H locs hH => ?_)
  refine lv_aload_n hx hb dX7_seekRooms_26 rfl (lv_at hl 0 rfl) ?_
  refine g_get X hH (fa_21_2 G) tw_122 dX7_seekRooms_27 ?_
  refine lv_iconst (v := (-1)) hx hb dX7_seekRooms_30 (by decide) ?_
  obtain ⟨r11, τ12, hc13, hf⟩ := e_b hf
  refine c_Sv X hH (n := 2) (As := [.ref (aG G 26), .int _]) (rest := []) (c_Jf_fill_26 l G (N := N) hc13) tw_80 tw_305 tw_79 tw_7 (by decide +kernel) ⟨by decide, by decide⟩ rfl hl.1 rfl (Nat.le_of_ble_eq_true rfl) ⟨Nat.zero_le _, Nat.zero_le _⟩ dX7_seekRooms_31 (fun H locs hH => ?_)
  refine lv_aload_n hx hb dX7_seekRooms_34 rfl (lv_at hl 0 rfl) ?_
  refine g_get X hH (fa_21_1 G) tw_121 dX7_seekRooms_35 ?_
  refine lv_iconst (v := 0) hx hb dX7_seekRooms_38 (by decide) ?_
  refine lv_iconst (v := 0) hx hb dX7_seekRooms_39 (by decide) ?_
  obtain ⟨τ14, eτ14, hf⟩ := e_l hf
  refine a_st X hH (aa_25 G) (by decide) dX7_seekRooms_40 (fun H locs hH => ?_)
  have hH : Hs G τ14 s H locs := by rw [eτ14]; exact hH
  refine lv_iconst (v := 0) hx hb dX7_seekRooms_41 (by decide) ?_
  refine lv_istore (lv' := [(4, .int 0), (0, .ref (aG G 21)), (1, .ref (aG G 1)), (2, .ref (aG G 5)), (3, .ref (aG G 18))]) hx hb dX7_seekRooms_42 hl (by decide) rfl (fun ls hl => ?_)
  refine lv_iconst (v := 0) hx hb dX7_seekRooms_44 (by decide) ?_
  refine lv_istore (lv' := [(5, .int 0), (4, .int 0), (0, .ref (aG G 21)), (1, .ref (aG G 1)), (2, .ref (aG G 5)), (3, .ref (aG G 18))]) hx hb dX7_seekRooms_45 hl (by decide) rfl (fun ls hl => ?_)
  exact b_Sk_seekRooms_21_1_5_18_47 (N := N) X _ _ _ _ _ _ _ hH (lv_sub hl [2, 3, 4, 5, 1, 0] rfl) hf
theorem c_Sk_seekRooms_21_1_5_18 (l : Launch) (G : GT) {N : Nat} {τ υ : Hp} {r : Int32} (hf : f_Sk_seekRooms N 21 1 5 18 τ = some (r, υ)) : MV l G yX7_seekRooms cX7_seekRooms 6 4 98 [.ref (aG G 21), .ref (aG G 1), .ref (aG G 5), .ref (aG G 18)] τ υ := mk_V (by decide) (Nat.le_of_ble_eq_true rfl) (fun p e s m args below meth c X hH ls hl => b_Sk_seekRooms_21_1_5_18_0 (N := N) X hH (lv_sub hl [0, 1, 2, 3] rfl) hf)
set_option maxHeartbeats 4000000 in
set_option maxRecDepth 100000 in
theorem b_Ly_copyRooms_11_26_0 {l : Launch} {G : GT} {N : Nat} {p : Program} {e : Env} {s : State} {m : MethodId} {args : Array Value} {below : List Frame} {meth : Method} {c : Code} (X : Cx G p s m args meth c cX2_copyRooms 2 RX2 none) {r : Int32} {υ : Hp} {τ : Hp} {H : Heap} {locs : List Loc} {ls : Array Slot} (hH : Hs G τ s H locs) (hl : lv_has ls 2 [(0, .ref (aG G 11)), (1, .ref (aG G 26))]) (hf : f_Ly_copyRooms N 11 26 τ = some (r, υ)) : WV l G (rmG 1 40) p e s m args below meth c υ H locs (F0 m 0 ls []) := by
  have hx := X.hx
  have hb := X.hb
  unfold f_Ly_copyRooms at hf
  refine lv_aload_n hx hb dX2_copyRooms_0 rfl (lv_at hl 1 rfl) ?_
  refine lv_iconst (v := 0) hx hb dX2_copyRooms_1 (by decide) ?_
  refine lv_aload_n hx hb dX2_copyRooms_2 rfl (lv_at hl 0 rfl) ?_
  refine g_get X hH (fa_11_0 G) tw_81 dX2_copyRooms_3 ?_
  refine lv_iconst (v := 0) hx hb dX2_copyRooms_6 (by decide) ?_
  refine lv_bipush (v := 8) hx hb dX2_copyRooms_7 (by decide) ?_
  obtain ⟨τ1, eτ1, hf⟩ := e_l hf
  refine a_cp X hH (aa_26 G) (aa_12 G) (N := 8) hl.1.symm tw_348 tw_336 tw_335 tw_15 (by decide) (by decide) (by decide) (by decide) (by decide) (Nat.le_of_ble_eq_true rfl) dX2_copyRooms_9 (fun H locs hH => ?_)
  have hH : Hs G τ1 s H locs := by rw [eτ1]; exact hH
  exact r_v X hH hf dX2_copyRooms_12
theorem c_Ly_copyRooms_11_26 (l : Launch) (G : GT) {N : Nat} {τ υ : Hp} {r : Int32} (hf : f_Ly_copyRooms N 11 26 τ = some (r, υ)) : MV l G yX2_copyRooms cX2_copyRooms 2 1 40 [.ref (aG G 11), .ref (aG G 26)] τ υ := mk_V (by decide) (Nat.le_of_ble_eq_true rfl) (fun p e s m args below meth c X hH ls hl => b_Ly_copyRooms_11_26_0 (N := N) X hH (lv_sub hl [0, 1] rfl) hf)
set_option maxHeartbeats 4000000 in
set_option maxRecDepth 100000 in
theorem b_Nd_copyFrom_14_18_0 {l : Launch} {G : GT} {N : Nat} {p : Program} {e : Env} {s : State} {m : MethodId} {args : Array Value} {below : List Frame} {meth : Method} {c : Code} (X : Cx G p s m args meth c cX3_copyFrom 2 RX3 none) {r : Int32} {υ : Hp} {τ : Hp} {H : Heap} {locs : List Loc} {ls : Array Slot} (hH : Hs G τ s H locs) (hl : lv_has ls 2 [(0, .ref (aG G 14)), (1, .ref (aG G 18))]) (hf : f_Nd_copyFrom N 14 18 τ = some (r, υ)) : WV l G (rmG 1 40) p e s m args below meth c υ H locs (F0 m 0 ls []) := by
  have hx := X.hx
  have hb := X.hb
  unfold f_Nd_copyFrom at hf
  refine lv_aload_n hx hb dX3_copyFrom_0 rfl (lv_at hl 1 rfl) ?_
  refine g_get X hH (fa_18_0 G) tw_96 dX3_copyFrom_1 ?_
  refine lv_iconst (v := 0) hx hb dX3_copyFrom_4 (by decide) ?_
  refine lv_aload_n hx hb dX3_copyFrom_5 rfl (lv_at hl 0 rfl) ?_
  refine g_get X hH (fa_14_0 G) tw_96 dX3_copyFrom_6 ?_
  refine lv_iconst (v := 0) hx hb dX3_copyFrom_9 (by decide) ?_
  refine lv_bipush (v := 64) hx hb dX3_copyFrom_10 (by decide) ?_
  obtain ⟨τ1, eτ1, hf⟩ := e_l hf
  refine a_cp X hH (aa_19 G) (aa_15 G) (N := 64) hl.1.symm tw_353 tw_336 tw_335 tw_15 (by decide) (by decide) (by decide) (by decide) (by decide) (Nat.le_of_ble_eq_true rfl) dX3_copyFrom_12 (fun H locs hH => ?_)
  have hH : Hs G τ1 s H locs := by rw [eτ1]; exact hH
  refine lv_aload_n hx hb dX3_copyFrom_15 rfl (lv_at hl 1 rfl) ?_
  refine g_get X hH (fa_18_1 G) tw_97 dX3_copyFrom_16 ?_
  refine lv_iconst (v := 0) hx hb dX3_copyFrom_19 (by decide) ?_
  refine lv_aload_n hx hb dX3_copyFrom_20 rfl (lv_at hl 0 rfl) ?_
  refine g_get X hH (fa_14_1 G) tw_97 dX3_copyFrom_21 ?_
  refine lv_iconst (v := 0) hx hb dX3_copyFrom_24 (by decide) ?_
  refine lv_sipush (v := 256) hx hb dX3_copyFrom_25 (by decide) ?_
  obtain ⟨τ2, eτ2, hf⟩ := e_l hf
  refine a_cp X hH (aa_20 G) (aa_16 G) (N := 256) hl.1.symm tw_353 tw_336 tw_335 tw_15 (by decide) (by decide) (by decide) (by decide) (by decide) (Nat.le_of_ble_eq_true rfl) dX3_copyFrom_28 (fun H locs hH => ?_)
  have hH : Hs G τ2 s H locs := by rw [eτ2]; exact hH
  exact r_v X hH hf dX3_copyFrom_31
theorem c_Nd_copyFrom_14_18 (l : Launch) (G : GT) {N : Nat} {τ υ : Hp} {r : Int32} (hf : f_Nd_copyFrom N 14 18 τ = some (r, υ)) : MV l G yX3_copyFrom cX3_copyFrom 2 1 40 [.ref (aG G 14), .ref (aG G 18)] τ υ := mk_V (by decide) (Nat.le_of_ble_eq_true rfl) (fun p e s m args below meth c X hH ls hl => b_Nd_copyFrom_14_18_0 (N := N) X hH (lv_sub hl [0, 1] rfl) hf)
set_option maxHeartbeats 4000000 in
set_option maxRecDepth 100000 in
theorem b_Ly_countStraysFrom_11_15_4_56 {l : Launch} {G : GT} {N : Nat} {p : Program} {e : Env} {s : State} {m : MethodId} {args : Array Value} {below : List Frame} {meth : Method} {c : Code} (X : Cx G p s m args meth c cX2_countStraysFrom 9 RX2 none) {r : Int32} {υ : Hp} {k11 : Hp → Int32 → Int32 → Int32 → Int32 → OR} (hk11 : ∀ (τ : Hp) (v1 v4 v5 v6 : Int32) (H : Heap) (locs : List Loc) (ls : Array Slot), Hs G τ s H locs → lv_has ls 9 [(0, .ref (aG G 11)), (1, .int v1), (2, .ref (aG G 15)), (3, .ref (aG G 4)), (4, .int v4), (5, .int v5), (6, .int v6)] → k11 τ v1 v4 v5 v6 = some (r, υ) → WV l G (rmG 1 21) p e s m args below meth c υ H locs (F0 m 11 ls [])) {τ : Hp} {v1 v4 v5 v6 w0 : Int32} {H : Heap} {locs : List Loc} {ls : Array Slot} (hH : Hs G τ s H locs) (hl : lv_has ls 9 [(0, .ref (aG G 11)), (1, .int v1), (2, .ref (aG G 15)), (3, .ref (aG G 4)), (4, .int v4), (5, .int v5), (6, .int v6)]) (hf : f_Ly_countStraysFrom_J56 N 11 15 4 k11 τ v1 v4 v5 v6 w0 = some (r, υ)) : WV l G (rmG 1 21) p e s m args below meth c υ H locs (F0 m 56 ls [.int w0]) := by
  have hx := X.hx
  have hb := X.hb
  unfold f_Ly_countStraysFrom_J56 at hf
  refine lv_istore (lv' := [(7, .int w0), (0, .ref (aG G 11)), (1, .int v1), (2, .ref (aG G 15)), (3, .ref (aG G 4)), (4, .int v4), (5, .int v5), (6, .int v6)]) hx hb dX2_countStraysFrom_56 hl (by decide) rfl (fun ls hl => ?_)
  refine lv_iload hx hb dX2_countStraysFrom_58 (lv_at hl 0 rfl) ?_
  refine lv_if_eq (tgt := 118) hx hb dX2_countStraysFrom_60 (by decide) (fun c1 => ?_) (fun c1 => ?_)
  · have hf := e_t c1 hf
    obtain ⟨x2, ex2, hf⟩ := e_l hf
    refine lv_iinc (v := x2) (lv' := [(6, .int x2), (7, .int w0), (0, .ref (aG G 11)), (1, .int v1), (2, .ref (aG G 15)), (3, .ref (aG G 4)), (4, .int v4), (5, .int v5)]) hx hb dX2_countStraysFrom_118 hl (k := 7) rfl (by rw [ex2]; rfl) (by decide) rfl (fun ls hl => ?_)
    refine lv_goto (tgt := 11) hx hb dX2_countStraysFrom_121 (by decide) ?_
    exact hk11 _ _ _ _ _ _ _ _ hH (lv_sub hl [2, 3, 4, 5, 6, 7, 0] rfl) hf
  · have hf := e_f c1 hf
    refine lv_iload_n hx hb dX2_countStraysFrom_63 rfl (lv_at hl 2 rfl) ?_
    refine lv_iload hx hb dX2_countStraysFrom_64 (lv_at hl 7 rfl) ?_
    obtain ⟨r3, τ4, hc5, hf⟩ := e_b hf
    refine c_SNi X hH (n := 2) (As := [.int _, .int _]) (rest := []) (c_WP_pairOf l G (N := N) hc5) tw_223 13 rfl tw_222 tw_1 (by decide +kernel) ⟨by decide, by decide⟩ rfl hl.1 rfl (Nat.le_of_ble_eq_true rfl) ⟨Nat.zero_le _, Nat.zero_le _⟩ dX2_countStraysFrom_66 (fun H locs hH => ?_)
    refine lv_istore (lv' := [(8, .int r3), (7, .int w0), (0, .ref (aG G 11)), (1, .int v1), (2, .ref (aG G 15)), (3, .ref (aG G 4)), (4, .int v4), (5, .int v5), (6, .int v6)]) hx hb dX2_countStraysFrom_69 hl (by decide) rfl (fun ls hl => ?_)
    refine lv_aload_n hx hb dX2_countStraysFrom_71 rfl (lv_at hl 2 rfl) ?_
    refine lv_dup hx hb dX2_countStraysFrom_72 rfl ?_
    refine g_get X hH (fa_11_3 G) tw_84 dX2_countStraysFrom_73 ?_
    refine lv_iload hx hb dX2_countStraysFrom_76 (lv_at hl 1 rfl) ?_
    refine lv_aload_n hx hb dX2_countStraysFrom_78 rfl (lv_at hl 4 rfl) ?_
    refine lv_iload hx hb dX2_countStraysFrom_79 (lv_at hl 0 rfl) ?_
    obtain ⟨g6, hf⟩ := e_g hf
    refine a_ld X hH (aa_15 G) g6 dX2_countStraysFrom_81 ?_
    refine lv_iconst (v := (-1)) hx hb dX2_countStraysFrom_82 (by decide) ?_
    refine lv_ixor hx hb dX2_countStraysFrom_83 ?_
    refine lv_iand hx hb dX2_countStraysFrom_84 ?_
    obtain ⟨r7, τ8, hc9, hf⟩ := e_b hf
    refine c_Si X hH (n := 1) (As := [.int _]) (rest := [.int _, .ref (aG G 11)]) (c_Jb_bitCount l G (N := N) hc9) tw_297 tw_324 tw_296 tw_14 (by decide +kernel) ⟨by decide, by decide⟩ rfl hl.1 rfl (Nat.le_of_ble_eq_true rfl) ⟨Nat.zero_le _, Nat.zero_le _⟩ dX2_countStraysFrom_85 (fun H locs hH => ?_)
    refine lv_iadd hx hb dX2_countStraysFrom_88 ?_
    obtain ⟨τ10, eτ10, hf⟩ := e_l hf
    refine g_put X hH (fp_11_3 G) tw_84 rfl rfl dX2_countStraysFrom_89 (fun H locs hH => ?_)
    have hH : Hs G τ10 s H locs := by rw [eτ10]; exact hH
    refine lv_aload_n hx hb dX2_countStraysFrom_92 rfl (lv_at hl 2 rfl) ?_
    refine lv_aload_n hx hb dX2_countStraysFrom_93 rfl (lv_at hl 2 rfl) ?_
    refine g_get X hH (fa_11_4 G) tw_85 dX2_countStraysFrom_94 ?_
    refine lv_if_ne (tgt := 110) hx hb dX2_countStraysFrom_97 (by decide) (fun c11 => ?_) (fun c11 => ?_)
    · have hf := e_f c11 hf
      refine lv_iconst (v := 1) hx hb dX2_countStraysFrom_110 (by decide) ?_
      refine lv_goto (tgt := 115) hx hb dX2_countStraysFrom_111 (by decide) ?_
      obtain ⟨τ12, eτ12, hf⟩ := e_l hf
      refine g_put X hH (fp_11_4 G) tw_85 (isB_n rfl) (isB_f rfl) dX2_countStraysFrom_115 (fun H locs hH => ?_)
      have hH : Hs G τ12 s H locs := by rw [eτ12]; exact hH
      obtain ⟨x13, ex13, hf⟩ := e_l hf
      refine lv_iinc (v := x13) (lv' := [(6, .int x13), (8, .int r3), (7, .int w0), (0, .ref (aG G 11)), (1, .int v1), (2, .ref (aG G 15)), (3, .ref (aG G 4)), (4, .int v4), (5, .int v5)]) hx hb dX2_countStraysFrom_118 hl (k := 8) rfl (by rw [ex13]; rfl) (by decide) rfl (fun ls hl => ?_)
      refine lv_goto (tgt := 11) hx hb dX2_countStraysFrom_121 (by decide) ?_
      exact hk11 _ _ _ _ _ _ _ _ hH (lv_sub hl [3, 4, 5, 6, 7, 8, 0] rfl) hf
    · have hf := e_t c11 hf
      refine lv_iload hx hb dX2_countStraysFrom_100 (lv_at hl 1 rfl) ?_
      refine lv_aload_n hx hb dX2_countStraysFrom_102 rfl (lv_at hl 5 rfl) ?_
      refine lv_iload hx hb dX2_countStraysFrom_103 (lv_at hl 0 rfl) ?_
      obtain ⟨g14, hf⟩ := e_g hf
      refine a_ld X hH (aa_4 G) g14 dX2_countStraysFrom_105 ?_
      refine lv_iand hx hb dX2_countStraysFrom_106 ?_
      refine lv_if_eq (tgt := 114) hx hb dX2_countStraysFrom_107 (by decide) (fun c15 => ?_) (fun c15 => ?_)
      · have hf := e_t c15 hf
        refine lv_iconst (v := 0) hx hb dX2_countStraysFrom_114 (by decide) ?_
        obtain ⟨τ16, eτ16, hf⟩ := e_l hf
        refine g_put X hH (fp_11_4 G) tw_85 (isB_n rfl) (isB_f rfl) dX2_countStraysFrom_115 (fun H locs hH => ?_)
        have hH : Hs G τ16 s H locs := by rw [eτ16]; exact hH
        obtain ⟨x17, ex17, hf⟩ := e_l hf
        refine lv_iinc (v := x17) (lv' := [(6, .int x17), (8, .int r3), (7, .int w0), (0, .ref (aG G 11)), (1, .int v1), (2, .ref (aG G 15)), (3, .ref (aG G 4)), (4, .int v4), (5, .int v5)]) hx hb dX2_countStraysFrom_118 hl (k := 8) rfl (by rw [ex17]; rfl) (by decide) rfl (fun ls hl => ?_)
        refine lv_goto (tgt := 11) hx hb dX2_countStraysFrom_121 (by decide) ?_
        exact hk11 _ _ _ _ _ _ _ _ hH (lv_sub hl [3, 4, 5, 6, 7, 8, 0] rfl) hf
      · have hf := e_f c15 hf
        refine lv_iconst (v := 1) hx hb dX2_countStraysFrom_110 (by decide) ?_
        refine lv_goto (tgt := 115) hx hb dX2_countStraysFrom_111 (by decide) ?_
        obtain ⟨τ18, eτ18, hf⟩ := e_l hf
        refine g_put X hH (fp_11_4 G) tw_85 (isB_n rfl) (isB_f rfl) dX2_countStraysFrom_115 (fun H locs hH => ?_)
        have hH : Hs G τ18 s H locs := by rw [eτ18]; exact hH
        obtain ⟨x19, ex19, hf⟩ := e_l hf
        refine lv_iinc (v := x19) (lv' := [(6, .int x19), (8, .int r3), (7, .int w0), (0, .ref (aG G 11)), (1, .int v1), (2, .ref (aG G 15)), (3, .ref (aG G 4)), (4, .int v4), (5, .int v5)]) hx hb dX2_countStraysFrom_118 hl (k := 8) rfl (by rw [ex19]; rfl) (by decide) rfl (fun ls hl => ?_)
        refine lv_goto (tgt := 11) hx hb dX2_countStraysFrom_121 (by decide) ?_
        exact hk11 _ _ _ _ _ _ _ _ hH (lv_sub hl [3, 4, 5, 6, 7, 8, 0] rfl) hf
set_option maxHeartbeats 4000000 in
set_option maxRecDepth 100000 in
theorem b_Ly_countStraysFrom_11_15_4_35 {l : Launch} {G : GT} {N : Nat} {p : Program} {e : Env} {s : State} {m : MethodId} {args : Array Value} {below : List Frame} {meth : Method} {c : Code} (X : Cx G p s m args meth c cX2_countStraysFrom 9 RX2 none) {r : Int32} {υ : Hp} {k11 : Hp → Int32 → Int32 → Int32 → Int32 → OR} (hk11 : ∀ (τ : Hp) (v1 v4 v5 v6 : Int32) (H : Heap) (locs : List Loc) (ls : Array Slot), Hs G τ s H locs → lv_has ls 9 [(0, .ref (aG G 11)), (1, .int v1), (2, .ref (aG G 15)), (3, .ref (aG G 4)), (4, .int v4), (5, .int v5), (6, .int v6)] → k11 τ v1 v4 v5 v6 = some (r, υ) → WV l G (rmG 1 21) p e s m args below meth c υ H locs (F0 m 11 ls [])) {τ : Hp} {v1 v4 v5 v6 : Int32} {H : Heap} {locs : List Loc} {ls : Array Slot} (hH : Hs G τ s H locs) (hl : lv_has ls 9 [(0, .ref (aG G 11)), (1, .int v1), (2, .ref (aG G 15)), (3, .ref (aG G 4)), (4, .int v4), (5, .int v5), (6, .int v6)]) (hf : f_Ly_countStraysFrom_J35 N 11 15 4 k11 τ v1 v4 v5 v6 = some (r, υ)) : WV l G (rmG 1 21) p e s m args below meth c υ H locs (F0 m 35 ls []) := by
  have hx := X.hx
  have hb := X.hb
  unfold f_Ly_countStraysFrom_J35 at hf
  refine lv_iconst (v := 0) hx hb dX2_countStraysFrom_35 (by decide) ?_
  refine lv_goto (tgt := 56) hx hb dX2_countStraysFrom_36 (by decide) ?_
  exact b_Ly_countStraysFrom_11_15_4_56 (N := N) X hk11 hH (lv_sub hl [0, 1, 2, 3, 4, 5, 6] rfl) hf
set_option maxHeartbeats 4000000 in
set_option maxRecDepth 100000 in
theorem b_Ly_countStraysFrom_11_15_4_11b {l : Launch} {G : GT} {N : Nat} {p : Program} {e : Env} {s : State} {m : MethodId} {args : Array Value} {below : List Frame} {meth : Method} {c : Code} (X : Cx G p s m args meth c cX2_countStraysFrom 9 RX2 none) {r : Int32} {υ : Hp} {k11 : Hp → Int32 → Int32 → Int32 → Int32 → OR} (hk11 : ∀ (τ : Hp) (v1 v4 v5 v6 : Int32) (H : Heap) (locs : List Loc) (ls : Array Slot), Hs G τ s H locs → lv_has ls 9 [(0, .ref (aG G 11)), (1, .int v1), (2, .ref (aG G 15)), (3, .ref (aG G 4)), (4, .int v4), (5, .int v5), (6, .int v6)] → k11 τ v1 v4 v5 v6 = some (r, υ) → WV l G (rmG 1 21) p e s m args below meth c υ H locs (F0 m 11 ls [])) {τ : Hp} {v1 v4 v5 v6 : Int32} {H : Heap} {locs : List Loc} {ls : Array Slot} (hH : Hs G τ s H locs) (hl : lv_has ls 9 [(0, .ref (aG G 11)), (1, .int v1), (2, .ref (aG G 15)), (3, .ref (aG G 4)), (4, .int v4), (5, .int v5), (6, .int v6)]) (hf : f_Ly_countStraysFrom_L11b N 11 15 4 k11 τ v1 v4 v5 v6 = some (r, υ)) : WV l G (rmG 1 21) p e s m args below meth c υ H locs (F0 m 11 ls []) := by
  have hx := X.hx
  have hb := X.hb
  unfold f_Ly_countStraysFrom_L11b at hf
  refine lv_iload hx hb dX2_countStraysFrom_11 (lv_at hl 6 rfl) ?_
  refine lv_iload hx hb dX2_countStraysFrom_13 (lv_at hl 4 rfl) ?_
  refine lv_icmp_ge (tgt := 124) hx hb dX2_countStraysFrom_15 (by decide) (fun c1 => ?_) (fun c1 => ?_)
  · have hf := e_t c1 hf
    exact r_v X hH hf dX2_countStraysFrom_124
  · have hf := e_f c1 hf
    refine lv_aload_n hx hb dX2_countStraysFrom_18 rfl (lv_at hl 0 rfl) ?_
    refine g_get X hH (fa_11_0 G) tw_81 dX2_countStraysFrom_19 ?_
    refine lv_iload hx hb dX2_countStraysFrom_22 (lv_at hl 6 rfl) ?_
    obtain ⟨g2, hf⟩ := e_g hf
    refine a_ld X hH (aa_12 G) g2 dX2_countStraysFrom_24 ?_
    refine lv_iconst (v := (-1)) hx hb dX2_countStraysFrom_25 (by decide) ?_
    refine lv_icmp_eq (tgt := 35) hx hb dX2_countStraysFrom_26 (by decide) (fun c3 => ?_) (fun c3 => ?_)
    · have hf := e_t c3 hf
      exact b_Ly_countStraysFrom_11_15_4_35 (N := N) X hk11 hH (lv_sub hl [0, 1, 2, 3, 4, 5, 6] rfl) hf
    · have hf := e_f c3 hf
      refine lv_iload hx hb dX2_countStraysFrom_29 (lv_at hl 6 rfl) ?_
      refine lv_iload_n hx hb dX2_countStraysFrom_31 rfl (lv_at hl 1 rfl) ?_
      refine lv_icmp_ne (tgt := 39) hx hb dX2_countStraysFrom_32 (by decide) (fun c4 => ?_) (fun c4 => ?_)
      · have hf := e_f c4 hf
        refine lv_aload_n hx hb dX2_countStraysFrom_39 rfl (lv_at hl 0 rfl) ?_
        refine g_get X hH (fa_11_1 G) tw_82 dX2_countStraysFrom_40 ?_
        refine lv_iload hx hb dX2_countStraysFrom_43 (lv_at hl 5 rfl) ?_
        refine lv_aload_n hx hb dX2_countStraysFrom_45 rfl (lv_at hl 0 rfl) ?_
        refine g_get X hH (fa_11_0 G) tw_81 dX2_countStraysFrom_46 ?_
        refine lv_iload hx hb dX2_countStraysFrom_49 (lv_at hl 6 rfl) ?_
        obtain ⟨g5, hf⟩ := e_g hf
        refine a_ld X hH (aa_12 G) g5 dX2_countStraysFrom_51 ?_
        obtain ⟨r6, τ7, hc8, hf⟩ := e_b hf
        refine c_SNi X hH (n := 2) (As := [.int _, .int _]) (rest := [.ref (aG G 13)]) (c_WP_pairOf l G (N := N) hc8) tw_223 13 rfl tw_222 tw_1 (by decide +kernel) ⟨by decide, by decide⟩ rfl hl.1 rfl (Nat.le_of_ble_eq_true rfl) ⟨Nat.zero_le _, Nat.zero_le _⟩ dX2_countStraysFrom_52 (fun H locs hH => ?_)
        obtain ⟨g9, hf⟩ := e_g hf
        refine a_ld X hH (aa_13 G) g9 dX2_countStraysFrom_55 ?_
        exact b_Ly_countStraysFrom_11_15_4_56 (N := N) X hk11 hH (lv_sub hl [0, 1, 2, 3, 4, 5, 6] rfl) hf
      · have hf := e_t c4 hf
        exact b_Ly_countStraysFrom_11_15_4_35 (N := N) X hk11 hH (lv_sub hl [0, 1, 2, 3, 4, 5, 6] rfl) hf
theorem b_Ly_countStraysFrom_11_15_4_11 {l : Launch} {G : GT} {N : Nat} {p : Program} {e : Env} {s : State} {m : MethodId} {args : Array Value} {below : List Frame} {meth : Method} {c : Code} (X : Cx G p s m args meth c cX2_countStraysFrom 9 RX2 none) {r : Int32} {υ : Hp} : ∀ (n : Nat) (τ : Hp) (v1 v4 v5 v6 : Int32) (H : Heap) (locs : List Loc) (ls : Array Slot), Hs G τ s H locs → lv_has ls 9 [(0, .ref (aG G 11)), (1, .int v1), (2, .ref (aG G 15)), (3, .ref (aG G 4)), (4, .int v4), (5, .int v5), (6, .int v6)] → f_Ly_countStraysFrom_L11 N 11 15 4 n τ v1 v4 v5 v6 = some (r, υ) → WV l G (rmG 1 21) p e s m args below meth c υ H locs (F0 m 11 ls []) := by
  intro n
  induction n with
  | zero => intro τ v1 v4 v5 v6 H locs ls hH hl hf; exact nomatch (show (none : OR) = some (r, υ) from hf)
  | succ n ih => intro τ v1 v4 v5 v6 H locs ls hH hl hf; exact b_Ly_countStraysFrom_11_15_4_11b (N := N) X ih hH hl hf
set_option maxHeartbeats 4000000 in
set_option maxRecDepth 100000 in
theorem b_Ly_countStraysFrom_11_15_4_0 {l : Launch} {G : GT} {N : Nat} {p : Program} {e : Env} {s : State} {m : MethodId} {args : Array Value} {below : List Frame} {meth : Method} {c : Code} (X : Cx G p s m args meth c cX2_countStraysFrom 9 RX2 none) {r : Int32} {υ : Hp} {τ : Hp} {v1 v4 : Int32} {H : Heap} {locs : List Loc} {ls : Array Slot} (hH : Hs G τ s H locs) (hl : lv_has ls 9 [(0, .ref (aG G 11)), (1, .int v1), (2, .ref (aG G 15)), (3, .ref (aG G 4)), (4, .int v4)]) (hf : f_Ly_countStraysFrom N 11 15 4 τ v1 v4 = some (r, υ)) : WV l G (rmG 1 21) p e s m args below meth c υ H locs (F0 m 0 ls []) := by
  have hx := X.hx
  have hb := X.hb
  unfold f_Ly_countStraysFrom at hf
  refine lv_aload_n hx hb dX2_countStraysFrom_0 rfl (lv_at hl 0 rfl) ?_
  refine g_get X hH (fa_11_0 G) tw_81 dX2_countStraysFrom_1 ?_
  refine lv_iload_n hx hb dX2_countStraysFrom_4 rfl (lv_at hl 1 rfl) ?_
  obtain ⟨g1, hf⟩ := e_g hf
  refine a_ld X hH (aa_12 G) g1 dX2_countStraysFrom_5 ?_
  obtain ⟨x2, ex2, hf⟩ := e_l hf
  refine g_nm ex2 ?_
  refine lv_istore (lv' := [(5, .int x2), (0, .ref (aG G 11)), (1, .int v1), (2, .ref (aG G 15)), (3, .ref (aG G 4)), (4, .int v4)]) hx hb dX2_countStraysFrom_6 hl (by decide) rfl (fun ls hl => ?_)
  refine lv_iconst (v := 0) hx hb dX2_countStraysFrom_8 (by decide) ?_
  refine lv_istore (lv' := [(6, .int 0), (5, .int x2), (0, .ref (aG G 11)), (1, .int v1), (2, .ref (aG G 15)), (3, .ref (aG G 4)), (4, .int v4)]) hx hb dX2_countStraysFrom_9 hl (by decide) rfl (fun ls hl => ?_)
  exact b_Ly_countStraysFrom_11_15_4_11 (N := N) X _ _ _ _ _ _ _ _ _ hH (lv_sub hl [2, 3, 4, 5, 6, 1, 0] rfl) hf
theorem c_Ly_countStraysFrom_11_15_4 (l : Launch) (G : GT) {N : Nat} {τ υ : Hp} {v1 v4 : Int32} {r : Int32} (hf : f_Ly_countStraysFrom N 11 15 4 τ v1 v4 = some (r, υ)) : MV l G yX2_countStraysFrom cX2_countStraysFrom 9 1 21 [.ref (aG G 11), .int v1, .ref (aG G 15), .ref (aG G 4), .int v4] τ υ := mk_V (by decide) (Nat.le_of_ble_eq_true rfl) (fun p e s m args below meth c X hH ls hl => b_Ly_countStraysFrom_11_15_4_0 (N := N) X hH (lv_sub hl [0, 1, 2, 3, 4] rfl) hf)
