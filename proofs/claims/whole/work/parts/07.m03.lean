-- Ly_openDoorsFrom_11_15 Jf_fill_13 Ly_openRooms_11 Ly_draw_11_15_4 WP_doorOf WP_firstOf WP_secondOf Pl_listRules_10 Pl_settle_10_26_18_1_5 WP_plan_0 Mo_goesOn_42 Mo_isTried_42 Mo_between_42 Mo_costs_42
set_option maxHeartbeats 4000000 in
set_option maxRecDepth 100000 in
theorem b_Ly_openDoorsFrom_11_15_11b {l : Launch} {G : GT} {N : Nat} {p : Program} {e : Env} {s : State} {m : MethodId} {args : Array Value} {below : List Frame} {meth : Method} {c : Code} (X : Cx G p s m args meth c cX2_openDoorsFrom 8 RX2 none) {r : Int32} {υ : Hp} {k11 : Hp → Int32 → Int32 → Int32 → Int32 → OR} (hk11 : ∀ (τ : Hp) (v1 v3 v4 v5 : Int32) (H : Heap) (locs : List Loc) (ls : Array Slot), Hs G τ s H locs → lv_has ls 8 [(0, .ref (aG G 11)), (1, .int v1), (2, .ref (aG G 15)), (3, .int v3), (4, .int v4), (5, .int v5)] → k11 τ v1 v3 v4 v5 = some (r, υ) → WV l G (rmG 1 21) p e s m args below meth c υ H locs (F0 m 11 ls [])) {τ : Hp} {v1 v3 v4 v5 : Int32} {H : Heap} {locs : List Loc} {ls : Array Slot} (hH : Hs G τ s H locs) (hl : lv_has ls 8 [(0, .ref (aG G 11)), (1, .int v1), (2, .ref (aG G 15)), (3, .int v3), (4, .int v4), (5, .int v5)]) (hf : f_Ly_openDoorsFrom_L11b N 11 15 k11 τ v1 v3 v4 v5 = some (r, υ)) : WV l G (rmG 1 21) p e s m args below meth c υ H locs (F0 m 11 ls []) := by
  have hx := X.hx
  have hb := X.hb
  unfold f_Ly_openDoorsFrom_L11b at hf
  refine lv_iload hx hb dX2_openDoorsFrom_11 (lv_at hl 5 rfl) ?_
  refine lv_iload_n hx hb dX2_openDoorsFrom_13 rfl (lv_at hl 3 rfl) ?_
  refine lv_icmp_ge (tgt := 99) hx hb dX2_openDoorsFrom_14 (by decide) (fun c1 => ?_) (fun c1 => ?_)
  · have hf := e_t c1 hf
    exact r_v X hH hf dX2_openDoorsFrom_99
  · have hf := e_f c1 hf
    refine lv_aload_n hx hb dX2_openDoorsFrom_17 rfl (lv_at hl 2 rfl) ?_
    refine lv_iload_n hx hb dX2_openDoorsFrom_18 rfl (lv_at hl 1 rfl) ?_
    refine lv_iload hx hb dX2_openDoorsFrom_19 (lv_at hl 5 rfl) ?_
    obtain ⟨r2, τ3, hc4, hf⟩ := e_b hf
    refine c_SNi X hH (n := 2) (As := [.int _, .int _]) (rest := [.ref (aG G 15)]) (c_WP_pairOf l G (N := N) hc4) tw_223 13 rfl tw_222 tw_1 (by decide +kernel) ⟨by decide, by decide⟩ rfl hl.1 rfl (Nat.le_of_ble_eq_true rfl) ⟨Nat.zero_le _, Nat.zero_le _⟩ dX2_openDoorsFrom_21 (fun H locs hH => ?_)
    obtain ⟨g5, hf⟩ := e_g hf
    refine a_ld X hH (aa_15 G) g5 dX2_openDoorsFrom_24 ?_
    obtain ⟨x6, ex6, hf⟩ := e_l hf
    refine g_nm ex6 ?_
    refine lv_istore (lv' := [(6, .int x6), (0, .ref (aG G 11)), (1, .int v1), (2, .ref (aG G 15)), (3, .int v3), (4, .int v4), (5, .int v5)]) hx hb dX2_openDoorsFrom_25 hl (by decide) rfl (fun ls hl => ?_)
    refine lv_iload hx hb dX2_openDoorsFrom_27 (lv_at hl 0 rfl) ?_
    refine lv_if_eq (tgt := 93) hx hb dX2_openDoorsFrom_29 (by decide) (fun c7 => ?_) (fun c7 => ?_)
    · have hf := e_t c7 hf
      obtain ⟨x8, ex8, hf⟩ := e_l hf
      refine lv_iinc (v := x8) (lv' := [(5, .int x8), (6, .int x6), (0, .ref (aG G 11)), (1, .int v1), (2, .ref (aG G 15)), (3, .int v3), (4, .int v4)]) hx hb dX2_openDoorsFrom_93 hl (k := 6) rfl (by rw [ex8]; rfl) (by decide) rfl (fun ls hl => ?_)
      refine lv_goto (tgt := 11) hx hb dX2_openDoorsFrom_96 (by decide) ?_
      exact hk11 _ _ _ _ _ _ _ _ hH (lv_sub hl [2, 3, 4, 5, 6, 0] rfl) hf
    · have hf := e_f c7 hf
      refine lv_aload_n hx hb dX2_openDoorsFrom_32 rfl (lv_at hl 1 rfl) ?_
      refine g_get X hH (fa_11_0 G) tw_81 dX2_openDoorsFrom_33 ?_
      refine lv_iload hx hb dX2_openDoorsFrom_36 (lv_at hl 6 rfl) ?_
      obtain ⟨g9, hf⟩ := e_g hf
      refine a_ld X hH (aa_12 G) g9 dX2_openDoorsFrom_38 ?_
      refine lv_iconst (v := (-1)) hx hb dX2_openDoorsFrom_39 (by decide) ?_
      refine lv_icmp_eq (tgt := 93) hx hb dX2_openDoorsFrom_40 (by decide) (fun c10 => ?_) (fun c10 => ?_)
      · have hf := e_t c10 hf
        obtain ⟨x11, ex11, hf⟩ := e_l hf
        refine lv_iinc (v := x11) (lv' := [(5, .int x11), (6, .int x6), (0, .ref (aG G 11)), (1, .int v1), (2, .ref (aG G 15)), (3, .int v3), (4, .int v4)]) hx hb dX2_openDoorsFrom_93 hl (k := 6) rfl (by rw [ex11]; rfl) (by decide) rfl (fun ls hl => ?_)
        refine lv_goto (tgt := 11) hx hb dX2_openDoorsFrom_96 (by decide) ?_
        exact hk11 _ _ _ _ _ _ _ _ hH (lv_sub hl [2, 3, 4, 5, 6, 0] rfl) hf
      · have hf := e_f c10 hf
        refine lv_iload hx hb dX2_openDoorsFrom_43 (lv_at hl 5 rfl) ?_
        refine lv_aload_n hx hb dX2_openDoorsFrom_45 rfl (lv_at hl 1 rfl) ?_
        refine g_get X hH (fa_11_0 G) tw_81 dX2_openDoorsFrom_46 ?_
        refine lv_iload hx hb dX2_openDoorsFrom_49 (lv_at hl 6 rfl) ?_
        obtain ⟨g12, hf⟩ := e_g hf
        refine a_ld X hH (aa_12 G) g12 dX2_openDoorsFrom_51 ?_
        obtain ⟨r13, τ14, hc15, hf⟩ := e_b hf
        refine c_SNi X hH (n := 2) (As := [.int _, .int _]) (rest := []) (c_WP_pairOf l G (N := N) hc15) tw_223 13 rfl tw_222 tw_1 (by decide +kernel) ⟨by decide, by decide⟩ rfl hl.1 rfl (Nat.le_of_ble_eq_true rfl) ⟨Nat.zero_le _, Nat.zero_le _⟩ dX2_openDoorsFrom_52 (fun H locs hH => ?_)
        refine lv_istore (lv' := [(7, .int r13), (6, .int x6), (0, .ref (aG G 11)), (1, .int v1), (2, .ref (aG G 15)), (3, .int v3), (4, .int v4), (5, .int v5)]) hx hb dX2_openDoorsFrom_55 hl (by decide) rfl (fun ls hl => ?_)
        refine lv_aload_n hx hb dX2_openDoorsFrom_57 rfl (lv_at hl 2 rfl) ?_
        refine lv_dup hx hb dX2_openDoorsFrom_58 rfl ?_
        refine g_get X hH (fa_11_2 G) tw_83 dX2_openDoorsFrom_59 ?_
        refine lv_iload hx hb dX2_openDoorsFrom_62 (lv_at hl 1 rfl) ?_
        refine lv_aload_n hx hb dX2_openDoorsFrom_64 rfl (lv_at hl 2 rfl) ?_
        refine g_get X hH (fa_11_1 G) tw_82 dX2_openDoorsFrom_65 ?_
        refine lv_iload hx hb dX2_openDoorsFrom_68 (lv_at hl 0 rfl) ?_
        obtain ⟨g16, hf⟩ := e_g hf
        refine a_ld X hH (aa_13 G) g16 dX2_openDoorsFrom_70 ?_
        refine lv_iconst (v := (-1)) hx hb dX2_openDoorsFrom_71 (by decide) ?_
        refine lv_ixor hx hb dX2_openDoorsFrom_72 ?_
        refine lv_iand hx hb dX2_openDoorsFrom_73 ?_
        obtain ⟨r17, τ18, hc19, hf⟩ := e_b hf
        refine c_Si X hH (n := 1) (As := [.int _]) (rest := [.int _, .ref (aG G 11)]) (c_Jb_bitCount l G (N := N) hc19) tw_297 tw_324 tw_296 tw_14 (by decide +kernel) ⟨by decide, by decide⟩ rfl hl.1 rfl (Nat.le_of_ble_eq_true rfl) ⟨Nat.zero_le _, Nat.zero_le _⟩ dX2_openDoorsFrom_74 (fun H locs hH => ?_)
        refine lv_iadd hx hb dX2_openDoorsFrom_77 ?_
        obtain ⟨τ20, eτ20, hf⟩ := e_l hf
        refine g_put X hH (fp_11_2 G) tw_83 rfl rfl dX2_openDoorsFrom_78 (fun H locs hH => ?_)
        have hH : Hs G τ20 s H locs := by rw [eτ20]; exact hH
        refine lv_aload_n hx hb dX2_openDoorsFrom_81 rfl (lv_at hl 2 rfl) ?_
        refine g_get X hH (fa_11_1 G) tw_82 dX2_openDoorsFrom_82 ?_
        refine lv_iload hx hb dX2_openDoorsFrom_85 (lv_at hl 0 rfl) ?_
        refine lv_dup2_11 hx hb dX2_openDoorsFrom_87 rfl rfl ?_
        obtain ⟨g21, hf⟩ := e_g hf
        refine a_ld X hH (aa_13 G) g21 dX2_openDoorsFrom_88 ?_
        refine lv_iload hx hb dX2_openDoorsFrom_89 (lv_at hl 1 rfl) ?_
        refine lv_ior hx hb dX2_openDoorsFrom_91 ?_
        obtain ⟨g22, hf⟩ := e_g hf
        obtain ⟨τ23, eτ23, hf⟩ := e_l hf
        refine a_st X hH (aa_13 G) g22 dX2_openDoorsFrom_92 (fun H locs hH => ?_)
        have hH : Hs G τ23 s H locs := by rw [eτ23]; exact hH
        obtain ⟨x24, ex24, hf⟩ := e_l hf
        refine lv_iinc (v := x24) (lv' := [(5, .int x24), (7, .int r13), (6, .int x6), (0, .ref (aG G 11)), (1, .int v1), (2, .ref (aG G 15)), (3, .int v3), (4, .int v4)]) hx hb dX2_openDoorsFrom_93 hl (k := 7) rfl (by rw [ex24]; rfl) (by decide) rfl (fun ls hl => ?_)
        refine lv_goto (tgt := 11) hx hb dX2_openDoorsFrom_96 (by decide) ?_
        exact hk11 _ _ _ _ _ _ _ _ hH (lv_sub hl [3, 4, 5, 6, 7, 0] rfl) hf
theorem b_Ly_openDoorsFrom_11_15_11 {l : Launch} {G : GT} {N : Nat} {p : Program} {e : Env} {s : State} {m : MethodId} {args : Array Value} {below : List Frame} {meth : Method} {c : Code} (X : Cx G p s m args meth c cX2_openDoorsFrom 8 RX2 none) {r : Int32} {υ : Hp} : ∀ (n : Nat) (τ : Hp) (v1 v3 v4 v5 : Int32) (H : Heap) (locs : List Loc) (ls : Array Slot), Hs G τ s H locs → lv_has ls 8 [(0, .ref (aG G 11)), (1, .int v1), (2, .ref (aG G 15)), (3, .int v3), (4, .int v4), (5, .int v5)] → f_Ly_openDoorsFrom_L11 N 11 15 n τ v1 v3 v4 v5 = some (r, υ) → WV l G (rmG 1 21) p e s m args below meth c υ H locs (F0 m 11 ls []) := by
  intro n
  induction n with
  | zero => intro τ v1 v3 v4 v5 H locs ls hH hl hf; exact nomatch (show (none : OR) = some (r, υ) from hf)
  | succ n ih => intro τ v1 v3 v4 v5 H locs ls hH hl hf; exact b_Ly_openDoorsFrom_11_15_11b (N := N) X ih hH hl hf
set_option maxHeartbeats 4000000 in
set_option maxRecDepth 100000 in
theorem b_Ly_openDoorsFrom_11_15_0 {l : Launch} {G : GT} {N : Nat} {p : Program} {e : Env} {s : State} {m : MethodId} {args : Array Value} {below : List Frame} {meth : Method} {c : Code} (X : Cx G p s m args meth c cX2_openDoorsFrom 8 RX2 none) {r : Int32} {υ : Hp} {τ : Hp} {v1 v3 : Int32} {H : Heap} {locs : List Loc} {ls : Array Slot} (hH : Hs G τ s H locs) (hl : lv_has ls 8 [(0, .ref (aG G 11)), (1, .int v1), (2, .ref (aG G 15)), (3, .int v3)]) (hf : f_Ly_openDoorsFrom N 11 15 τ v1 v3 = some (r, υ)) : WV l G (rmG 1 21) p e s m args below meth c υ H locs (F0 m 0 ls []) := by
  have hx := X.hx
  have hb := X.hb
  unfold f_Ly_openDoorsFrom at hf
  refine lv_aload_n hx hb dX2_openDoorsFrom_0 rfl (lv_at hl 0 rfl) ?_
  refine g_get X hH (fa_11_0 G) tw_81 dX2_openDoorsFrom_1 ?_
  refine lv_iload_n hx hb dX2_openDoorsFrom_4 rfl (lv_at hl 1 rfl) ?_
  obtain ⟨g1, hf⟩ := e_g hf
  refine a_ld X hH (aa_12 G) g1 dX2_openDoorsFrom_5 ?_
  obtain ⟨x2, ex2, hf⟩ := e_l hf
  refine g_nm ex2 ?_
  refine lv_istore (lv' := [(4, .int x2), (0, .ref (aG G 11)), (1, .int v1), (2, .ref (aG G 15)), (3, .int v3)]) hx hb dX2_openDoorsFrom_6 hl (by decide) rfl (fun ls hl => ?_)
  refine lv_iconst (v := 0) hx hb dX2_openDoorsFrom_8 (by decide) ?_
  refine lv_istore (lv' := [(5, .int 0), (4, .int x2), (0, .ref (aG G 11)), (1, .int v1), (2, .ref (aG G 15)), (3, .int v3)]) hx hb dX2_openDoorsFrom_9 hl (by decide) rfl (fun ls hl => ?_)
  exact b_Ly_openDoorsFrom_11_15_11 (N := N) X _ _ _ _ _ _ _ _ _ hH (lv_sub hl [2, 3, 4, 5, 1, 0] rfl) hf
theorem c_Ly_openDoorsFrom_11_15 (l : Launch) (G : GT) {N : Nat} {τ υ : Hp} {v1 v3 : Int32} {r : Int32} (hf : f_Ly_openDoorsFrom N 11 15 τ v1 v3 = some (r, υ)) : MV l G yX2_openDoorsFrom cX2_openDoorsFrom 8 1 21 [.ref (aG G 11), .int v1, .ref (aG G 15), .int v3] τ υ := mk_V (by decide) (Nat.le_of_ble_eq_true rfl) (fun p e s m args below meth c X hH ls hl => b_Ly_openDoorsFrom_11_15_0 (N := N) X hH (lv_sub hl [0, 1, 2, 3] rfl) hf)
set_option maxHeartbeats 4000000 in
set_option maxRecDepth 100000 in
theorem b_Jf_fill_13_5b {l : Launch} {G : GT} {N : Nat} {p : Program} {e : Env} {s : State} {m : MethodId} {args : Array Value} {below : List Frame} {meth : Method} {c : Code} (X : Cx G p s m args meth c cJ7_fill_53178 4 RJ7 none) {r : Int32} {υ : Hp} {k5 : Hp → Int32 → Int32 → Int32 → OR} (hk5 : ∀ (τ : Hp) (v1 v2 v3 : Int32) (H : Heap) (locs : List Loc) (ls : Array Slot), Hs G τ s H locs → lv_has ls 4 [(0, .ref (aG G 13)), (1, .int v1), (2, .int v2), (3, .int v3)] → k5 τ v1 v2 v3 = some (r, υ) → WV l G (rmG 0 0) p e s m args below meth c υ H locs (F0 m 5 ls [])) {τ : Hp} {v1 v2 v3 : Int32} {H : Heap} {locs : List Loc} {ls : Array Slot} (hH : Hs G τ s H locs) (hl : lv_has ls 4 [(0, .ref (aG G 13)), (1, .int v1), (2, .int v2), (3, .int v3)]) (hf : f_Jf_fill_L5b N 13 k5 τ v1 v2 v3 = some (r, υ)) : WV l G (rmG 0 0) p e s m args below meth c υ H locs (F0 m 5 ls []) := by
  have hx := X.hx
  have hb := X.hb
  unfold f_Jf_fill_L5b at hf
  refine lv_iload_n hx hb dJ7_fill_53178_5 rfl (lv_at hl 2 rfl) ?_
  refine lv_iload_n hx hb dJ7_fill_53178_6 rfl (lv_at hl 3 rfl) ?_
  refine lv_icmp_ge (tgt := 20) hx hb dJ7_fill_53178_7 (by decide) (fun c1 => ?_) (fun c1 => ?_)
  · have hf := e_t c1 hf
    exact r_v X hH hf dJ7_fill_53178_20
  · have hf := e_f c1 hf
    refine lv_aload_n hx hb dJ7_fill_53178_10 rfl (lv_at hl 0 rfl) ?_
    refine lv_iload_n hx hb dJ7_fill_53178_11 rfl (lv_at hl 2 rfl) ?_
    refine lv_iload_n hx hb dJ7_fill_53178_12 rfl (lv_at hl 1 rfl) ?_
    obtain ⟨g2, hf⟩ := e_g hf
    obtain ⟨τ3, eτ3, hf⟩ := e_l hf
    refine a_st X hH (aa_13 G) g2 dJ7_fill_53178_13 (fun H locs hH => ?_)
    have hH : Hs G τ3 s H locs := by rw [eτ3]; exact hH
    obtain ⟨x4, ex4, hf⟩ := e_l hf
    refine lv_iinc (v := x4) (lv' := [(2, .int x4), (0, .ref (aG G 13)), (1, .int v1), (3, .int v3)]) hx hb dJ7_fill_53178_14 hl (k := 2) rfl (by rw [ex4]; rfl) (by decide) rfl (fun ls hl => ?_)
    refine lv_goto (tgt := 5) hx hb dJ7_fill_53178_17 (by decide) ?_
    exact hk5 _ _ _ _ _ _ _ hH (lv_sub hl [1, 2, 0, 3] rfl) hf
theorem b_Jf_fill_13_5 {l : Launch} {G : GT} {N : Nat} {p : Program} {e : Env} {s : State} {m : MethodId} {args : Array Value} {below : List Frame} {meth : Method} {c : Code} (X : Cx G p s m args meth c cJ7_fill_53178 4 RJ7 none) {r : Int32} {υ : Hp} : ∀ (n : Nat) (τ : Hp) (v1 v2 v3 : Int32) (H : Heap) (locs : List Loc) (ls : Array Slot), Hs G τ s H locs → lv_has ls 4 [(0, .ref (aG G 13)), (1, .int v1), (2, .int v2), (3, .int v3)] → f_Jf_fill_L5 N 13 n τ v1 v2 v3 = some (r, υ) → WV l G (rmG 0 0) p e s m args below meth c υ H locs (F0 m 5 ls []) := by
  intro n
  induction n with
  | zero => intro τ v1 v2 v3 H locs ls hH hl hf; exact nomatch (show (none : OR) = some (r, υ) from hf)
  | succ n ih => intro τ v1 v2 v3 H locs ls hH hl hf; exact b_Jf_fill_13_5b (N := N) X ih hH hl hf
set_option maxHeartbeats 4000000 in
set_option maxRecDepth 100000 in
theorem b_Jf_fill_13_0 {l : Launch} {G : GT} {N : Nat} {p : Program} {e : Env} {s : State} {m : MethodId} {args : Array Value} {below : List Frame} {meth : Method} {c : Code} (X : Cx G p s m args meth c cJ7_fill_53178 4 RJ7 none) {r : Int32} {υ : Hp} {τ : Hp} {v1 : Int32} {H : Heap} {locs : List Loc} {ls : Array Slot} (hH : Hs G τ s H locs) (hl : lv_has ls 4 [(0, .ref (aG G 13)), (1, .int v1)]) (hf : f_Jf_fill N 13 τ v1 = some (r, υ)) : WV l G (rmG 0 0) p e s m args below meth c υ H locs (F0 m 0 ls []) := by
  have hx := X.hx
  have hb := X.hb
  unfold f_Jf_fill at hf
  refine lv_iconst (v := 0) hx hb dJ7_fill_53178_0 (by decide) ?_
  refine lv_istore_n (lv' := [(2, .int 0), (0, .ref (aG G 13)), (1, .int v1)]) hx hb dJ7_fill_53178_1 rfl hl (by decide) rfl (fun ls hl => ?_)
  refine lv_aload_n hx hb dJ7_fill_53178_2 rfl (lv_at hl 1 rfl) ?_
  refine a_len X hH (aa_13 G) dJ7_fill_53178_3 ?_
  obtain ⟨x1, ex1, hf⟩ := e_l hf
  refine g_nm ex1 ?_
  refine lv_istore_n (lv' := [(3, .int x1), (2, .int 0), (0, .ref (aG G 13)), (1, .int v1)]) hx hb dJ7_fill_53178_4 rfl hl (by decide) rfl (fun ls hl => ?_)
  exact b_Jf_fill_13_5 (N := N) X _ _ _ _ _ _ _ _ hH (lv_sub hl [2, 3, 1, 0] rfl) hf
theorem c_Jf_fill_13 (l : Launch) (G : GT) {N : Nat} {τ υ : Hp} {v1 : Int32} {r : Int32} (hf : f_Jf_fill N 13 τ v1 = some (r, υ)) : MV l G yJ7_fill_53178 cJ7_fill_53178 4 0 0 [.ref (aG G 13), .int v1] τ υ := mk_V (by decide) (Nat.le_of_ble_eq_true rfl) (fun p e s m args below meth c X hH ls hl => b_Jf_fill_13_0 (N := N) X hH (lv_sub hl [0, 1] rfl) hf)
set_option maxHeartbeats 4000000 in
set_option maxRecDepth 100000 in
theorem b_Ly_openRooms_11_15b {l : Launch} {G : GT} {N : Nat} {p : Program} {e : Env} {s : State} {m : MethodId} {args : Array Value} {below : List Frame} {meth : Method} {c : Code} (X : Cx G p s m args meth c cX2_openRooms 2 RX2 none) {r : Int32} {υ : Hp} {k15 : Hp → Int32 → OR} (hk15 : ∀ (τ : Hp) (v1 : Int32) (H : Heap) (locs : List Loc) (ls : Array Slot), Hs G τ s H locs → lv_has ls 2 [(0, .ref (aG G 11)), (1, .int v1)] → k15 τ v1 = some (r, υ) → WV l G (rmG 1 23) p e s m args below meth c υ H locs (F0 m 15 ls [])) {τ : Hp} {v1 : Int32} {H : Heap} {locs : List Loc} {ls : Array Slot} (hH : Hs G τ s H locs) (hl : lv_has ls 2 [(0, .ref (aG G 11)), (1, .int v1)]) (hf : f_Ly_openRooms_L15b N 11 k15 τ v1 = some (r, υ)) : WV l G (rmG 1 23) p e s m args below meth c υ H locs (F0 m 15 ls []) := by
  have hx := X.hx
  have hb := X.hb
  unfold f_Ly_openRooms_L15b at hf
  refine lv_iload_n hx hb dX2_openRooms_15 rfl (lv_at hl 1 rfl) ?_
  refine lv_bipush (v := 8) hx hb dX2_openRooms_16 (by decide) ?_
  refine lv_icmp_ge (tgt := 39) hx hb dX2_openRooms_18 (by decide) (fun c1 => ?_) (fun c1 => ?_)
  · have hf := e_t c1 hf
    exact r_v X hH hf dX2_openRooms_39
  · have hf := e_f c1 hf
    refine lv_aload_n hx hb dX2_openRooms_21 rfl (lv_at hl 0 rfl) ?_
    refine g_get X hH (fa_11_1 G) tw_82 dX2_openRooms_22 ?_
    refine lv_iload_n hx hb dX2_openRooms_25 rfl (lv_at hl 1 rfl) ?_
    refine lv_iload_n hx hb dX2_openRooms_26 rfl (lv_at hl 1 rfl) ?_
    obtain ⟨r2, τ3, hc4, hf⟩ := e_b hf
    refine c_SNi X hH (n := 2) (As := [.int _, .int _]) (rest := [.ref (aG G 13)]) (c_WP_pairOf l G (N := N) hc4) tw_223 13 rfl tw_222 tw_1 (by decide +kernel) ⟨by decide, by decide⟩ rfl hl.1 rfl (Nat.le_of_ble_eq_true rfl) ⟨Nat.zero_le _, Nat.zero_le _⟩ dX2_openRooms_27 (fun H locs hH => ?_)
    refine lv_bipush (v := 15) hx hb dX2_openRooms_30 (by decide) ?_
    obtain ⟨g5, hf⟩ := e_g hf
    obtain ⟨τ6, eτ6, hf⟩ := e_l hf
    refine a_st X hH (aa_13 G) g5 dX2_openRooms_32 (fun H locs hH => ?_)
    have hH : Hs G τ6 s H locs := by rw [eτ6]; exact hH
    obtain ⟨x7, ex7, hf⟩ := e_l hf
    refine lv_iinc (v := x7) (lv' := [(1, .int x7), (0, .ref (aG G 11))]) hx hb dX2_openRooms_33 hl (k := 1) rfl (by rw [ex7]; rfl) (by decide) rfl (fun ls hl => ?_)
    refine lv_goto (tgt := 15) hx hb dX2_openRooms_36 (by decide) ?_
    exact hk15 _ _ _ _ _ hH (lv_sub hl [1, 0] rfl) hf
theorem b_Ly_openRooms_11_15 {l : Launch} {G : GT} {N : Nat} {p : Program} {e : Env} {s : State} {m : MethodId} {args : Array Value} {below : List Frame} {meth : Method} {c : Code} (X : Cx G p s m args meth c cX2_openRooms 2 RX2 none) {r : Int32} {υ : Hp} : ∀ (n : Nat) (τ : Hp) (v1 : Int32) (H : Heap) (locs : List Loc) (ls : Array Slot), Hs G τ s H locs → lv_has ls 2 [(0, .ref (aG G 11)), (1, .int v1)] → f_Ly_openRooms_L15 N 11 n τ v1 = some (r, υ) → WV l G (rmG 1 23) p e s m args below meth c υ H locs (F0 m 15 ls []) := by
  intro n
  induction n with
  | zero => intro τ v1 H locs ls hH hl hf; exact nomatch (show (none : OR) = some (r, υ) from hf)
  | succ n ih => intro τ v1 H locs ls hH hl hf; exact b_Ly_openRooms_11_15b (N := N) X ih hH hl hf
set_option maxHeartbeats 4000000 in
set_option maxRecDepth 100000 in
theorem b_Ly_openRooms_11_0 {l : Launch} {G : GT} {N : Nat} {p : Program} {e : Env} {s : State} {m : MethodId} {args : Array Value} {below : List Frame} {meth : Method} {c : Code} (X : Cx G p s m args meth c cX2_openRooms 2 RX2 none) {r : Int32} {υ : Hp} {τ : Hp} {H : Heap} {locs : List Loc} {ls : Array Slot} (hH : Hs G τ s H locs) (hl : lv_has ls 2 [(0, .ref (aG G 11))]) (hf : f_Ly_openRooms N 11 τ = some (r, υ)) : WV l G (rmG 1 23) p e s m args below meth c υ H locs (F0 m 0 ls []) := by
  have hx := X.hx
  have hb := X.hb
  unfold f_Ly_openRooms at hf
  refine lv_aload_n hx hb dX2_openRooms_0 rfl (lv_at hl 0 rfl) ?_
  refine lv_iconst (v := 0) hx hb dX2_openRooms_1 (by decide) ?_
  obtain ⟨τ1, eτ1, hf⟩ := e_l hf
  refine g_put X hH (fp_11_2 G) tw_83 rfl rfl dX2_openRooms_2 (fun H locs hH => ?_)
  have hH : Hs G τ1 s H locs := by rw [eτ1]; exact hH
  refine lv_aload_n hx hb dX2_openRooms_5 rfl (lv_at hl 0 rfl) ?_
  refine g_get X hH (fa_11_1 G) tw_82 dX2_openRooms_6 ?_
  refine lv_iconst (v := 0) hx hb dX2_openRooms_9 (by decide) ?_
  obtain ⟨r2, τ3, hc4, hf⟩ := e_b hf
  refine c_Sv X hH (n := 2) (As := [.ref (aG G 13), .int _]) (rest := []) (c_Jf_fill_13 l G (N := N) hc4) tw_80 tw_78 tw_79 tw_7 (by decide +kernel) ⟨by decide, by decide⟩ rfl hl.1 rfl (Nat.le_of_ble_eq_true rfl) ⟨Nat.zero_le _, Nat.zero_le _⟩ dX2_openRooms_10 (fun H locs hH => ?_)
  refine lv_iconst (v := 0) hx hb dX2_openRooms_13 (by decide) ?_
  refine lv_istore_n (lv' := [(1, .int 0), (0, .ref (aG G 11))]) hx hb dX2_openRooms_14 rfl hl (by decide) rfl (fun ls hl => ?_)
  exact b_Ly_openRooms_11_15 (N := N) X _ _ _ _ _ _ hH (lv_sub hl [1, 0] rfl) hf
theorem c_Ly_openRooms_11 (l : Launch) (G : GT) {N : Nat} {τ υ : Hp} {r : Int32} (hf : f_Ly_openRooms N 11 τ = some (r, υ)) : MV l G yX2_openRooms cX2_openRooms 2 1 23 [.ref (aG G 11)] τ υ := mk_V (by decide) (Nat.le_of_ble_eq_true rfl) (fun p e s m args below meth c X hH ls hl => b_Ly_openRooms_11_0 (N := N) X hH (lv_sub hl [0] rfl) hf)
set_option maxHeartbeats 4000000 in
set_option maxRecDepth 100000 in
theorem b_Ly_draw_11_15_4_51b {l : Launch} {G : GT} {N : Nat} {p : Program} {e : Env} {s : State} {m : MethodId} {args : Array Value} {below : List Frame} {meth : Method} {c : Code} (X : Cx G p s m args meth c cX2_draw 5 RX2 none) {r : Int32} {υ : Hp} {k51 : Hp → Int32 → Int32 → OR} (hk51 : ∀ (τ : Hp) (v3 v4 : Int32) (H : Heap) (locs : List Loc) (ls : Array Slot), Hs G τ s H locs → lv_has ls 5 [(0, .ref (aG G 11)), (1, .ref (aG G 15)), (2, .ref (aG G 4)), (3, .int v3), (4, .int v4)] → k51 τ v3 v4 = some (r, υ) → WV l G (rmG 2 49) p e s m args below meth c υ H locs (F0 m 51 ls [])) {τ : Hp} {v3 v4 : Int32} {H : Heap} {locs : List Loc} {ls : Array Slot} (hH : Hs G τ s H locs) (hl : lv_has ls 5 [(0, .ref (aG G 11)), (1, .ref (aG G 15)), (2, .ref (aG G 4)), (3, .int v3), (4, .int v4)]) (hf : f_Ly_draw_L51b N 11 15 4 k51 τ v3 v4 = some (r, υ)) : WV l G (rmG 2 49) p e s m args below meth c υ H locs (F0 m 51 ls []) := by
  have hx := X.hx
  have hb := X.hb
  unfold f_Ly_draw_L51b at hf
  refine lv_iload hx hb dX2_draw_51 (lv_at hl 4 rfl) ?_
  refine lv_iload_n hx hb dX2_draw_53 rfl (lv_at hl 3 rfl) ?_
  refine lv_icmp_ge (tgt := 83) hx hb dX2_draw_54 (by decide) (fun c1 => ?_) (fun c1 => ?_)
  · have hf := e_t c1 hf
    exact r_v X hH hf dX2_draw_83
  · have hf := e_f c1 hf
    refine lv_aload_n hx hb dX2_draw_57 rfl (lv_at hl 0 rfl) ?_
    refine g_get X hH (fa_11_0 G) tw_81 dX2_draw_58 ?_
    refine lv_iload hx hb dX2_draw_61 (lv_at hl 4 rfl) ?_
    obtain ⟨g2, hf⟩ := e_g hf
    refine a_ld X hH (aa_12 G) g2 dX2_draw_63 ?_
    refine lv_iconst (v := (-1)) hx hb dX2_draw_64 (by decide) ?_
    refine lv_icmp_eq (tgt := 77) hx hb dX2_draw_65 (by decide) (fun c3 => ?_) (fun c3 => ?_)
    · have hf := e_t c3 hf
      obtain ⟨x4, ex4, hf⟩ := e_l hf
      refine lv_iinc (v := x4) (lv' := [(4, .int x4), (0, .ref (aG G 11)), (1, .ref (aG G 15)), (2, .ref (aG G 4)), (3, .int v3)]) hx hb dX2_draw_77 hl (k := 4) rfl (by rw [ex4]; rfl) (by decide) rfl (fun ls hl => ?_)
      refine lv_goto (tgt := 51) hx hb dX2_draw_80 (by decide) ?_
      exact hk51 _ _ _ _ _ _ hH (lv_sub hl [1, 2, 3, 4, 0] rfl) hf
    · have hf := e_f c3 hf
      refine lv_aload_n hx hb dX2_draw_68 rfl (lv_at hl 0 rfl) ?_
      refine lv_iload hx hb dX2_draw_69 (lv_at hl 4 rfl) ?_
      refine lv_aload_n hx hb dX2_draw_71 rfl (lv_at hl 1 rfl) ?_
      refine lv_aload_n hx hb dX2_draw_72 rfl (lv_at hl 2 rfl) ?_
      refine lv_iload_n hx hb dX2_draw_73 rfl (lv_at hl 3 rfl) ?_
      obtain ⟨r5, τ6, hc7, hf⟩ := e_b hf
      refine c_Vv X hH (k := 11) (n := 4) (As := [.int _, .ref (aG G 15), .ref (aG G 4), .int _]) (rest := []) (c_Ly_countStraysFrom_11_15_4 l G (N := N) hc7) (by decide) rfl rfl tw_327 tw_325 tw_326 tw_759 tw_6 (by decide +kernel) ⟨by decide, by decide⟩ rfl hl.1 rfl (Nat.le_of_ble_eq_true rfl) ⟨Nat.zero_le _, Nat.zero_le _⟩ dX2_draw_74 (fun H locs hH => ?_)
      obtain ⟨x8, ex8, hf⟩ := e_l hf
      refine lv_iinc (v := x8) (lv' := [(4, .int x8), (0, .ref (aG G 11)), (1, .ref (aG G 15)), (2, .ref (aG G 4)), (3, .int v3)]) hx hb dX2_draw_77 hl (k := 4) rfl (by rw [ex8]; rfl) (by decide) rfl (fun ls hl => ?_)
      refine lv_goto (tgt := 51) hx hb dX2_draw_80 (by decide) ?_
      exact hk51 _ _ _ _ _ _ hH (lv_sub hl [1, 2, 3, 4, 0] rfl) hf
theorem b_Ly_draw_11_15_4_51 {l : Launch} {G : GT} {N : Nat} {p : Program} {e : Env} {s : State} {m : MethodId} {args : Array Value} {below : List Frame} {meth : Method} {c : Code} (X : Cx G p s m args meth c cX2_draw 5 RX2 none) {r : Int32} {υ : Hp} : ∀ (n : Nat) (τ : Hp) (v3 v4 : Int32) (H : Heap) (locs : List Loc) (ls : Array Slot), Hs G τ s H locs → lv_has ls 5 [(0, .ref (aG G 11)), (1, .ref (aG G 15)), (2, .ref (aG G 4)), (3, .int v3), (4, .int v4)] → f_Ly_draw_L51 N 11 15 4 n τ v3 v4 = some (r, υ) → WV l G (rmG 2 49) p e s m args below meth c υ H locs (F0 m 51 ls []) := by
  intro n
  induction n with
  | zero => intro τ v3 v4 H locs ls hH hl hf; exact nomatch (show (none : OR) = some (r, υ) from hf)
  | succ n ih => intro τ v3 v4 H locs ls hH hl hf; exact b_Ly_draw_11_15_4_51b (N := N) X ih hH hl hf
set_option maxHeartbeats 4000000 in
set_option maxRecDepth 100000 in
theorem b_Ly_draw_11_15_4_7b {l : Launch} {G : GT} {N : Nat} {p : Program} {e : Env} {s : State} {m : MethodId} {args : Array Value} {below : List Frame} {meth : Method} {c : Code} (X : Cx G p s m args meth c cX2_draw 5 RX2 none) {r : Int32} {υ : Hp} {k7 : Hp → Int32 → Int32 → OR} (hk7 : ∀ (τ : Hp) (v3 v4 : Int32) (H : Heap) (locs : List Loc) (ls : Array Slot), Hs G τ s H locs → lv_has ls 5 [(0, .ref (aG G 11)), (1, .ref (aG G 15)), (2, .ref (aG G 4)), (3, .int v3), (4, .int v4)] → k7 τ v3 v4 = some (r, υ) → WV l G (rmG 2 49) p e s m args below meth c υ H locs (F0 m 7 ls [])) {τ : Hp} {v3 v4 : Int32} {H : Heap} {locs : List Loc} {ls : Array Slot} (hH : Hs G τ s H locs) (hl : lv_has ls 5 [(0, .ref (aG G 11)), (1, .ref (aG G 15)), (2, .ref (aG G 4)), (3, .int v3), (4, .int v4)]) (hf : f_Ly_draw_L7b N 11 15 4 k7 τ v3 v4 = some (r, υ)) : WV l G (rmG 2 49) p e s m args below meth c υ H locs (F0 m 7 ls []) := by
  have hx := X.hx
  have hb := X.hb
  unfold f_Ly_draw_L7b at hf
  refine lv_iload hx hb dX2_draw_7 (lv_at hl 4 rfl) ?_
  refine lv_iload_n hx hb dX2_draw_9 rfl (lv_at hl 3 rfl) ?_
  refine lv_icmp_ge (tgt := 38) hx hb dX2_draw_10 (by decide) (fun c1 => ?_) (fun c1 => ?_)
  · have hf := e_t c1 hf
    refine lv_aload_n hx hb dX2_draw_38 rfl (lv_at hl 0 rfl) ?_
    refine lv_iconst (v := 0) hx hb dX2_draw_39 (by decide) ?_
    obtain ⟨τ2, eτ2, hf⟩ := e_l hf
    refine g_put X hH (fp_11_3 G) tw_84 rfl rfl dX2_draw_40 (fun H locs hH => ?_)
    have hH : Hs G τ2 s H locs := by rw [eτ2]; exact hH
    refine lv_aload_n hx hb dX2_draw_43 rfl (lv_at hl 0 rfl) ?_
    refine lv_iconst (v := 0) hx hb dX2_draw_44 (by decide) ?_
    obtain ⟨τ3, eτ3, hf⟩ := e_l hf
    refine g_put X hH (fp_11_4 G) tw_85 (isB_n rfl) (isB_f rfl) dX2_draw_45 (fun H locs hH => ?_)
    have hH : Hs G τ3 s H locs := by rw [eτ3]; exact hH
    refine lv_iconst (v := 0) hx hb dX2_draw_48 (by decide) ?_
    refine lv_istore (lv' := [(4, .int 0), (0, .ref (aG G 11)), (1, .ref (aG G 15)), (2, .ref (aG G 4)), (3, .int v3)]) hx hb dX2_draw_49 hl (by decide) rfl (fun ls hl => ?_)
    exact b_Ly_draw_11_15_4_51 (N := N) X _ _ _ _ _ _ _ hH (lv_sub hl [1, 2, 3, 4, 0] rfl) hf
  · have hf := e_f c1 hf
    refine lv_aload_n hx hb dX2_draw_13 rfl (lv_at hl 0 rfl) ?_
    refine g_get X hH (fa_11_0 G) tw_81 dX2_draw_14 ?_
    refine lv_iload hx hb dX2_draw_17 (lv_at hl 4 rfl) ?_
    obtain ⟨g4, hf⟩ := e_g hf
    refine a_ld X hH (aa_12 G) g4 dX2_draw_19 ?_
    refine lv_iconst (v := (-1)) hx hb dX2_draw_20 (by decide) ?_
    refine lv_icmp_eq (tgt := 32) hx hb dX2_draw_21 (by decide) (fun c5 => ?_) (fun c5 => ?_)
    · have hf := e_t c5 hf
      obtain ⟨x6, ex6, hf⟩ := e_l hf
      refine lv_iinc (v := x6) (lv' := [(4, .int x6), (0, .ref (aG G 11)), (1, .ref (aG G 15)), (2, .ref (aG G 4)), (3, .int v3)]) hx hb dX2_draw_32 hl (k := 4) rfl (by rw [ex6]; rfl) (by decide) rfl (fun ls hl => ?_)
      refine lv_goto (tgt := 7) hx hb dX2_draw_35 (by decide) ?_
      exact hk7 _ _ _ _ _ _ hH (lv_sub hl [1, 2, 3, 4, 0] rfl) hf
    · have hf := e_f c5 hf
      refine lv_aload_n hx hb dX2_draw_24 rfl (lv_at hl 0 rfl) ?_
      refine lv_iload hx hb dX2_draw_25 (lv_at hl 4 rfl) ?_
      refine lv_aload_n hx hb dX2_draw_27 rfl (lv_at hl 1 rfl) ?_
      refine lv_iload_n hx hb dX2_draw_28 rfl (lv_at hl 3 rfl) ?_
      obtain ⟨r7, τ8, hc9, hf⟩ := e_b hf
      refine c_Vv X hH (k := 11) (n := 3) (As := [.int _, .ref (aG G 15), .int _]) (rest := []) (c_Ly_openDoorsFrom_11_15 l G (N := N) hc9) (by decide) rfl rfl tw_323 tw_321 tw_322 tw_758 tw_6 (by decide +kernel) ⟨by decide, by decide⟩ rfl hl.1 rfl (Nat.le_of_ble_eq_true rfl) ⟨Nat.zero_le _, Nat.zero_le _⟩ dX2_draw_29 (fun H locs hH => ?_)
      obtain ⟨x10, ex10, hf⟩ := e_l hf
      refine lv_iinc (v := x10) (lv' := [(4, .int x10), (0, .ref (aG G 11)), (1, .ref (aG G 15)), (2, .ref (aG G 4)), (3, .int v3)]) hx hb dX2_draw_32 hl (k := 4) rfl (by rw [ex10]; rfl) (by decide) rfl (fun ls hl => ?_)
      refine lv_goto (tgt := 7) hx hb dX2_draw_35 (by decide) ?_
      exact hk7 _ _ _ _ _ _ hH (lv_sub hl [1, 2, 3, 4, 0] rfl) hf
theorem b_Ly_draw_11_15_4_7 {l : Launch} {G : GT} {N : Nat} {p : Program} {e : Env} {s : State} {m : MethodId} {args : Array Value} {below : List Frame} {meth : Method} {c : Code} (X : Cx G p s m args meth c cX2_draw 5 RX2 none) {r : Int32} {υ : Hp} : ∀ (n : Nat) (τ : Hp) (v3 v4 : Int32) (H : Heap) (locs : List Loc) (ls : Array Slot), Hs G τ s H locs → lv_has ls 5 [(0, .ref (aG G 11)), (1, .ref (aG G 15)), (2, .ref (aG G 4)), (3, .int v3), (4, .int v4)] → f_Ly_draw_L7 N 11 15 4 n τ v3 v4 = some (r, υ) → WV l G (rmG 2 49) p e s m args below meth c υ H locs (F0 m 7 ls []) := by
  intro n
  induction n with
  | zero => intro τ v3 v4 H locs ls hH hl hf; exact nomatch (show (none : OR) = some (r, υ) from hf)
  | succ n ih => intro τ v3 v4 H locs ls hH hl hf; exact b_Ly_draw_11_15_4_7b (N := N) X ih hH hl hf
set_option maxHeartbeats 4000000 in
set_option maxRecDepth 100000 in
theorem b_Ly_draw_11_15_4_0 {l : Launch} {G : GT} {N : Nat} {p : Program} {e : Env} {s : State} {m : MethodId} {args : Array Value} {below : List Frame} {meth : Method} {c : Code} (X : Cx G p s m args meth c cX2_draw 5 RX2 none) {r : Int32} {υ : Hp} {τ : Hp} {v3 : Int32} {H : Heap} {locs : List Loc} {ls : Array Slot} (hH : Hs G τ s H locs) (hl : lv_has ls 5 [(0, .ref (aG G 11)), (1, .ref (aG G 15)), (2, .ref (aG G 4)), (3, .int v3)]) (hf : f_Ly_draw N 11 15 4 τ v3 = some (r, υ)) : WV l G (rmG 2 49) p e s m args below meth c υ H locs (F0 m 0 ls []) := by
  have hx := X.hx
  have hb := X.hb
  unfold f_Ly_draw at hf
  refine lv_aload_n hx hb dX2_draw_0 rfl (lv_at hl 0 rfl) ?_
  obtain ⟨r1, τ2, hc3, hf⟩ := e_b hf
  refine c_Vv X hH (k := 11) (n := 0) (As := []) (rest := []) (c_Ly_openRooms_11 l G (N := N) hc3) (by decide) rfl rfl tw_320 tw_318 tw_319 tw_757 tw_6 (by decide +kernel) ⟨by decide, by decide⟩ rfl hl.1 rfl (Nat.le_of_ble_eq_true rfl) ⟨Nat.zero_le _, Nat.zero_le _⟩ dX2_draw_1 (fun H locs hH => ?_)
  refine lv_iconst (v := 0) hx hb dX2_draw_4 (by decide) ?_
  refine lv_istore (lv' := [(4, .int 0), (0, .ref (aG G 11)), (1, .ref (aG G 15)), (2, .ref (aG G 4)), (3, .int v3)]) hx hb dX2_draw_5 hl (by decide) rfl (fun ls hl => ?_)
  exact b_Ly_draw_11_15_4_7 (N := N) X _ _ _ _ _ _ _ hH (lv_sub hl [1, 2, 3, 4, 0] rfl) hf
theorem c_Ly_draw_11_15_4 (l : Launch) (G : GT) {N : Nat} {τ υ : Hp} {v3 : Int32} {r : Int32} (hf : f_Ly_draw N 11 15 4 τ v3 = some (r, υ)) : MV l G yX2_draw cX2_draw 5 2 49 [.ref (aG G 11), .ref (aG G 15), .ref (aG G 4), .int v3] τ υ := mk_V (by decide) (Nat.le_of_ble_eq_true rfl) (fun p e s m args below meth c X hH ls hl => b_Ly_draw_11_15_4_0 (N := N) X hH (lv_sub hl [0, 1, 2, 3] rfl) hf)
set_option maxHeartbeats 4000000 in
set_option maxRecDepth 100000 in
theorem b_WP_doorOf_0 {l : Launch} {G : GT} {N : Nat} {p : Program} {e : Env} {s : State} {m : MethodId} {args : Array Value} {below : List Frame} {meth : Method} {c : Code} (X : Cx G p s m args meth c cX10_doorOf 1 RX10 (some .int)) {r : Int32} {υ : Hp} {τ : Hp} {v0 : Int32} {H : Heap} {locs : List Loc} {ls : Array Slot} (hH : Hs G τ s H locs) (hl : lv_has ls 1 [(0, .int v0)]) (hf : f_WP_doorOf N τ v0 = some (r, υ)) : WI l G (rmG 0 0) p e s m args below meth c r υ H locs (F0 m 0 ls []) := by
  have hx := X.hx
  have hb := X.hb
  unfold f_WP_doorOf at hf
  refine lv_iload_n hx hb dX10_doorOf_0 rfl (lv_at hl 0 rfl) ?_
  refine lv_iconst (v := 4) hx hb dX10_doorOf_1 (by decide) ?_
  refine lv_irem hx hb dX10_doorOf_2 (by decide) ?_
  exact r_i X hH hf dX10_doorOf_3
theorem c_WP_doorOf (l : Launch) (G : GT) {N : Nat} {τ υ : Hp} {v0 : Int32} {r : Int32} (hf : f_WP_doorOf N τ v0 = some (r, υ)) : MI l G yX10_doorOf cX10_doorOf 1 (some .int) 0 0 [.int v0] τ r υ := mk_I (by decide) (Nat.le_of_ble_eq_true rfl) (fun p e s m args below meth c X hH ls hl => b_WP_doorOf_0 (N := N) X hH (lv_sub hl [0] rfl) hf)
set_option maxHeartbeats 4000000 in
set_option maxRecDepth 100000 in
theorem b_WP_firstOf_0 {l : Launch} {G : GT} {N : Nat} {p : Program} {e : Env} {s : State} {m : MethodId} {args : Array Value} {below : List Frame} {meth : Method} {c : Code} (X : Cx G p s m args meth c cX10_firstOf 1 RX10 (some .int)) {r : Int32} {υ : Hp} {τ : Hp} {v0 : Int32} {H : Heap} {locs : List Loc} {ls : Array Slot} (hH : Hs G τ s H locs) (hl : lv_has ls 1 [(0, .int v0)]) (hf : f_WP_firstOf N τ v0 = some (r, υ)) : WI l G (rmG 0 0) p e s m args below meth c r υ H locs (F0 m 0 ls []) := by
  have hx := X.hx
  have hb := X.hb
  unfold f_WP_firstOf at hf
  refine lv_iload_n hx hb dX10_firstOf_0 rfl (lv_at hl 0 rfl) ?_
  refine lv_iconst (v := 4) hx hb dX10_firstOf_1 (by decide) ?_
  refine lv_idiv hx hb dX10_firstOf_2 (by decide) ?_
  refine lv_bipush (v := 8) hx hb dX10_firstOf_3 (by decide) ?_
  refine lv_idiv hx hb dX10_firstOf_5 (by decide) ?_
  exact r_i X hH hf dX10_firstOf_6
theorem c_WP_firstOf (l : Launch) (G : GT) {N : Nat} {τ υ : Hp} {v0 : Int32} {r : Int32} (hf : f_WP_firstOf N τ v0 = some (r, υ)) : MI l G yX10_firstOf cX10_firstOf 1 (some .int) 0 0 [.int v0] τ r υ := mk_I (by decide) (Nat.le_of_ble_eq_true rfl) (fun p e s m args below meth c X hH ls hl => b_WP_firstOf_0 (N := N) X hH (lv_sub hl [0] rfl) hf)
set_option maxHeartbeats 4000000 in
set_option maxRecDepth 100000 in
theorem b_WP_secondOf_0 {l : Launch} {G : GT} {N : Nat} {p : Program} {e : Env} {s : State} {m : MethodId} {args : Array Value} {below : List Frame} {meth : Method} {c : Code} (X : Cx G p s m args meth c cX10_secondOf 1 RX10 (some .int)) {r : Int32} {υ : Hp} {τ : Hp} {v0 : Int32} {H : Heap} {locs : List Loc} {ls : Array Slot} (hH : Hs G τ s H locs) (hl : lv_has ls 1 [(0, .int v0)]) (hf : f_WP_secondOf N τ v0 = some (r, υ)) : WI l G (rmG 0 0) p e s m args below meth c r υ H locs (F0 m 0 ls []) := by
  have hx := X.hx
  have hb := X.hb
  unfold f_WP_secondOf at hf
  refine lv_iload_n hx hb dX10_secondOf_0 rfl (lv_at hl 0 rfl) ?_
  refine lv_iconst (v := 4) hx hb dX10_secondOf_1 (by decide) ?_
  refine lv_idiv hx hb dX10_secondOf_2 (by decide) ?_
  refine lv_bipush (v := 8) hx hb dX10_secondOf_3 (by decide) ?_
  refine lv_irem hx hb dX10_secondOf_5 (by decide) ?_
  exact r_i X hH hf dX10_secondOf_6
theorem c_WP_secondOf (l : Launch) (G : GT) {N : Nat} {τ υ : Hp} {v0 : Int32} {r : Int32} (hf : f_WP_secondOf N τ v0 = some (r, υ)) : MI l G yX10_secondOf cX10_secondOf 1 (some .int) 0 0 [.int v0] τ r υ := mk_I (by decide) (Nat.le_of_ble_eq_true rfl) (fun p e s m args below meth c X hH ls hl => b_WP_secondOf_0 (N := N) X hH (lv_sub hl [0] rfl) hf)
set_option maxHeartbeats 4000000 in
set_option maxRecDepth 100000 in
theorem b_Pl_listRules_10_30 {l : Launch} {G : GT} {N : Nat} {p : Program} {e : Env} {s : State} {m : MethodId} {args : Array Value} {below : List Frame} {meth : Method} {c : Code} (X : Cx G p s m args meth c cX6_listRules 3 RX6 none) {r : Int32} {υ : Hp} {k7 : Hp → Int32 → OR} (hk7 : ∀ (τ : Hp) (v1 : Int32) (H : Heap) (locs : List Loc) (ls : Array Slot), Hs G τ s H locs → lv_has ls 3 [(0, .ref (aG G 10)), (1, .int v1)] → k7 τ v1 = some (r, υ) → WV l G (rmG 1 21) p e s m args below meth c υ H locs (F0 m 7 ls [])) {τ : Hp} {v1 w0 : Int32} {H : Heap} {locs : List Loc} {ls : Array Slot} (hH : Hs G τ s H locs) (hl : lv_has ls 3 [(0, .ref (aG G 10)), (1, .int v1)]) (hf : f_Pl_listRules_J30 N 10 k7 τ v1 w0 = some (r, υ)) : WV l G (rmG 1 21) p e s m args below meth c υ H locs (F0 m 30 ls [.int w0]) := by
  have hx := X.hx
  have hb := X.hb
  unfold f_Pl_listRules_J30 at hf
  refine lv_istore_n (lv' := [(2, .int w0), (0, .ref (aG G 10)), (1, .int v1)]) hx hb dX6_listRules_30 rfl hl (by decide) rfl (fun ls hl => ?_)
  refine lv_iload_n hx hb dX6_listRules_31 rfl (lv_at hl 0 rfl) ?_
  refine lv_if_eq (tgt := 86) hx hb dX6_listRules_32 (by decide) (fun c1 => ?_) (fun c1 => ?_)
  · have hf := e_t c1 hf
    obtain ⟨x2, ex2, hf⟩ := e_l hf
    refine lv_iinc (v := x2) (lv' := [(1, .int x2), (2, .int w0), (0, .ref (aG G 10))]) hx hb dX6_listRules_86 hl (k := 2) rfl (by rw [ex2]; rfl) (by decide) rfl (fun ls hl => ?_)
    refine lv_goto (tgt := 7) hx hb dX6_listRules_89 (by decide) ?_
    exact hk7 _ _ _ _ _ hH (lv_sub hl [2, 0] rfl) hf
  · have hf := e_f c1 hf
    refine lv_aload_n hx hb dX6_listRules_35 rfl (lv_at hl 1 rfl) ?_
    refine g_get X hH (fa_10_0 G) tw_100 dX6_listRules_36 ?_
    refine g_getN X hH (fa_11_1 G) 26 rfl dX6_listRules_39 ?_
    refine lv_iload_n hx hb dX6_listRules_42 rfl (lv_at hl 2 rfl) ?_
    refine lv_iconst (v := 4) hx hb dX6_listRules_43 (by decide) ?_
    refine lv_idiv hx hb dX6_listRules_44 (by decide) ?_
    obtain ⟨g3, hf⟩ := e_g hf
    refine a_ld X hH (aa_13 G) g3 dX6_listRules_45 ?_
    refine lv_iload_n hx hb dX6_listRules_46 rfl (lv_at hl 2 rfl) ?_
    obtain ⟨r4, τ5, hc6, hf⟩ := e_b hf
    refine c_SNi X hH (n := 1) (As := [.int _]) (rest := [.int _]) (c_WP_doorOf l G (N := N) hc6) tw_364 16 rfl tw_363 tw_1 (by decide +kernel) ⟨by decide, by decide⟩ rfl hl.1 rfl (Nat.le_of_ble_eq_true rfl) ⟨Nat.zero_le _, Nat.zero_le _⟩ dX6_listRules_47 (fun H locs hH => ?_)
    obtain ⟨r7, τ8, hc9, hf⟩ := e_b hf
    refine c_SNi X hH (n := 2) (As := [.int _, .int _]) (rest := []) (c_WP_hasDoor l G (N := N) hc9) tw_237 17 rfl tw_236 tw_1 (by decide +kernel) ⟨by decide, by decide⟩ rfl hl.1 rfl (Nat.le_of_ble_eq_true rfl) ⟨Nat.zero_le _, Nat.zero_le _⟩ dX6_listRules_50 (fun H locs hH => ?_)
    refine lv_if_eq (tgt := 86) hx hb dX6_listRules_53 (by decide) (fun c10 => ?_) (fun c10 => ?_)
    · have hf := e_t c10 hf
      obtain ⟨x11, ex11, hf⟩ := e_l hf
      refine lv_iinc (v := x11) (lv' := [(1, .int x11), (2, .int w0), (0, .ref (aG G 10))]) hx hb dX6_listRules_86 hl (k := 2) rfl (by rw [ex11]; rfl) (by decide) rfl (fun ls hl => ?_)
      refine lv_goto (tgt := 7) hx hb dX6_listRules_89 (by decide) ?_
      exact hk7 _ _ _ _ _ hH (lv_sub hl [2, 0] rfl) hf
    · have hf := e_f c10 hf
      refine lv_aload_n hx hb dX6_listRules_56 rfl (lv_at hl 1 rfl) ?_
      refine g_get X hH (fa_10_3 G) tw_103 dX6_listRules_57 ?_
      refine lv_sipush (v := 224) hx hb dX6_listRules_60 (by decide) ?_
      refine lv_icmp_ge (tgt := 86) hx hb dX6_listRules_63 (by decide) (fun c12 => ?_) (fun c12 => ?_)
      · have hf := e_t c12 hf
        obtain ⟨x13, ex13, hf⟩ := e_l hf
        refine lv_iinc (v := x13) (lv' := [(1, .int x13), (2, .int w0), (0, .ref (aG G 10))]) hx hb dX6_listRules_86 hl (k := 2) rfl (by rw [ex13]; rfl) (by decide) rfl (fun ls hl => ?_)
        refine lv_goto (tgt := 7) hx hb dX6_listRules_89 (by decide) ?_
        exact hk7 _ _ _ _ _ hH (lv_sub hl [2, 0] rfl) hf
      · have hf := e_f c12 hf
        refine lv_aload_n hx hb dX6_listRules_66 rfl (lv_at hl 1 rfl) ?_
        refine g_get X hH (fa_10_2 G) tw_102 dX6_listRules_67 ?_
        refine lv_aload_n hx hb dX6_listRules_70 rfl (lv_at hl 1 rfl) ?_
        refine g_get X hH (fa_10_3 G) tw_103 dX6_listRules_71 ?_
        refine lv_iload_n hx hb dX6_listRules_74 rfl (lv_at hl 2 rfl) ?_
        obtain ⟨g14, hf⟩ := e_g hf
        obtain ⟨τ15, eτ15, hf⟩ := e_l hf
        refine a_st X hH (aa_17 G) g14 dX6_listRules_75 (fun H locs hH => ?_)
        have hH : Hs G τ15 s H locs := by rw [eτ15]; exact hH
        refine lv_aload_n hx hb dX6_listRules_76 rfl (lv_at hl 1 rfl) ?_
        refine lv_dup hx hb dX6_listRules_77 rfl ?_
        refine g_get X hH (fa_10_3 G) tw_103 dX6_listRules_78 ?_
        refine lv_iconst (v := 1) hx hb dX6_listRules_81 (by decide) ?_
        refine lv_iadd hx hb dX6_listRules_82 ?_
        obtain ⟨τ16, eτ16, hf⟩ := e_l hf
        refine g_put X hH (fp_10_3 G) tw_103 rfl rfl dX6_listRules_83 (fun H locs hH => ?_)
        have hH : Hs G τ16 s H locs := by rw [eτ16]; exact hH
        obtain ⟨x17, ex17, hf⟩ := e_l hf
        refine lv_iinc (v := x17) (lv' := [(1, .int x17), (2, .int w0), (0, .ref (aG G 10))]) hx hb dX6_listRules_86 hl (k := 2) rfl (by rw [ex17]; rfl) (by decide) rfl (fun ls hl => ?_)
        refine lv_goto (tgt := 7) hx hb dX6_listRules_89 (by decide) ?_
        exact hk7 _ _ _ _ _ hH (lv_sub hl [2, 0] rfl) hf
set_option maxHeartbeats 4000000 in
set_option maxRecDepth 100000 in
theorem b_Pl_listRules_10_7b {l : Launch} {G : GT} {N : Nat} {p : Program} {e : Env} {s : State} {m : MethodId} {args : Array Value} {below : List Frame} {meth : Method} {c : Code} (X : Cx G p s m args meth c cX6_listRules 3 RX6 none) {r : Int32} {υ : Hp} {k7 : Hp → Int32 → OR} (hk7 : ∀ (τ : Hp) (v1 : Int32) (H : Heap) (locs : List Loc) (ls : Array Slot), Hs G τ s H locs → lv_has ls 3 [(0, .ref (aG G 10)), (1, .int v1)] → k7 τ v1 = some (r, υ) → WV l G (rmG 1 21) p e s m args below meth c υ H locs (F0 m 7 ls [])) {τ : Hp} {v1 : Int32} {H : Heap} {locs : List Loc} {ls : Array Slot} (hH : Hs G τ s H locs) (hl : lv_has ls 3 [(0, .ref (aG G 10)), (1, .int v1)]) (hf : f_Pl_listRules_L7b N 10 k7 τ v1 = some (r, υ)) : WV l G (rmG 1 21) p e s m args below meth c υ H locs (F0 m 7 ls []) := by
  have hx := X.hx
  have hb := X.hb
  unfold f_Pl_listRules_L7b at hf
  refine lv_iload_n hx hb dX6_listRules_7 rfl (lv_at hl 1 rfl) ?_
  refine lv_sipush (v := 256) hx hb dX6_listRules_8 (by decide) ?_
  refine lv_icmp_ge (tgt := 92) hx hb dX6_listRules_11 (by decide) (fun c1 => ?_) (fun c1 => ?_)
  · have hf := e_t c1 hf
    exact r_v X hH hf dX6_listRules_92
  · have hf := e_f c1 hf
    refine lv_iload_n hx hb dX6_listRules_14 rfl (lv_at hl 1 rfl) ?_
    obtain ⟨r2, τ3, hc4, hf⟩ := e_b hf
    refine c_SNi X hH (n := 1) (As := [.int _]) (rest := []) (c_WP_firstOf l G (N := N) hc4) tw_360 14 rfl tw_359 tw_1 (by decide +kernel) ⟨by decide, by decide⟩ rfl hl.1 rfl (Nat.le_of_ble_eq_true rfl) ⟨Nat.zero_le _, Nat.zero_le _⟩ dX6_listRules_15 (fun H locs hH => ?_)
    refine lv_iload_n hx hb dX6_listRules_18 rfl (lv_at hl 1 rfl) ?_
    obtain ⟨r5, τ6, hc7, hf⟩ := e_b hf
    refine c_SNi X hH (n := 1) (As := [.int _]) (rest := [.int _]) (c_WP_secondOf l G (N := N) hc7) tw_362 15 rfl tw_361 tw_1 (by decide +kernel) ⟨by decide, by decide⟩ rfl hl.1 rfl (Nat.le_of_ble_eq_true rfl) ⟨Nat.zero_le _, Nat.zero_le _⟩ dX6_listRules_19 (fun H locs hH => ?_)
    refine lv_icmp_eq (tgt := 29) hx hb dX6_listRules_22 (by decide) (fun c8 => ?_) (fun c8 => ?_)
    · have hf := e_t c8 hf
      refine lv_iconst (v := 0) hx hb dX6_listRules_29 (by decide) ?_
      exact b_Pl_listRules_10_30 (N := N) X hk7 hH (lv_sub hl [0, 1] rfl) hf
    · have hf := e_f c8 hf
      refine lv_iconst (v := 1) hx hb dX6_listRules_25 (by decide) ?_
      refine lv_goto (tgt := 30) hx hb dX6_listRules_26 (by decide) ?_
      exact b_Pl_listRules_10_30 (N := N) X hk7 hH (lv_sub hl [0, 1] rfl) hf
theorem b_Pl_listRules_10_7 {l : Launch} {G : GT} {N : Nat} {p : Program} {e : Env} {s : State} {m : MethodId} {args : Array Value} {below : List Frame} {meth : Method} {c : Code} (X : Cx G p s m args meth c cX6_listRules 3 RX6 none) {r : Int32} {υ : Hp} : ∀ (n : Nat) (τ : Hp) (v1 : Int32) (H : Heap) (locs : List Loc) (ls : Array Slot), Hs G τ s H locs → lv_has ls 3 [(0, .ref (aG G 10)), (1, .int v1)] → f_Pl_listRules_L7 N 10 n τ v1 = some (r, υ) → WV l G (rmG 1 21) p e s m args below meth c υ H locs (F0 m 7 ls []) := by
  intro n
  induction n with
  | zero => intro τ v1 H locs ls hH hl hf; exact nomatch (show (none : OR) = some (r, υ) from hf)
  | succ n ih => intro τ v1 H locs ls hH hl hf; exact b_Pl_listRules_10_7b (N := N) X ih hH hl hf
set_option maxHeartbeats 4000000 in
set_option maxRecDepth 100000 in
theorem b_Pl_listRules_10_0 {l : Launch} {G : GT} {N : Nat} {p : Program} {e : Env} {s : State} {m : MethodId} {args : Array Value} {below : List Frame} {meth : Method} {c : Code} (X : Cx G p s m args meth c cX6_listRules 3 RX6 none) {r : Int32} {υ : Hp} {τ : Hp} {H : Heap} {locs : List Loc} {ls : Array Slot} (hH : Hs G τ s H locs) (hl : lv_has ls 3 [(0, .ref (aG G 10))]) (hf : f_Pl_listRules N 10 τ = some (r, υ)) : WV l G (rmG 1 21) p e s m args below meth c υ H locs (F0 m 0 ls []) := by
  have hx := X.hx
  have hb := X.hb
  unfold f_Pl_listRules at hf
  refine lv_aload_n hx hb dX6_listRules_0 rfl (lv_at hl 0 rfl) ?_
  refine lv_iconst (v := 0) hx hb dX6_listRules_1 (by decide) ?_
  obtain ⟨τ1, eτ1, hf⟩ := e_l hf
  refine g_put X hH (fp_10_3 G) tw_103 rfl rfl dX6_listRules_2 (fun H locs hH => ?_)
  have hH : Hs G τ1 s H locs := by rw [eτ1]; exact hH
  refine lv_iconst (v := 0) hx hb dX6_listRules_5 (by decide) ?_
  refine lv_istore_n (lv' := [(1, .int 0), (0, .ref (aG G 10))]) hx hb dX6_listRules_6 rfl hl (by decide) rfl (fun ls hl => ?_)
  exact b_Pl_listRules_10_7 (N := N) X _ _ _ _ _ _ hH (lv_sub hl [1, 0] rfl) hf
theorem c_Pl_listRules_10 (l : Launch) (G : GT) {N : Nat} {τ υ : Hp} {r : Int32} (hf : f_Pl_listRules N 10 τ = some (r, υ)) : MV l G yX6_listRules cX6_listRules 3 1 21 [.ref (aG G 10)] τ υ := mk_V (by decide) (Nat.le_of_ble_eq_true rfl) (fun p e s m args below meth c X hH ls hl => b_Pl_listRules_10_0 (N := N) X hH (lv_sub hl [0] rfl) hf)
set_option maxHeartbeats 4000000 in
set_option maxRecDepth 100000 in
theorem b_Pl_settle_10_26_18_1_5_0 {l : Launch} {G : GT} {N : Nat} {p : Program} {e : Env} {s : State} {m : MethodId} {args : Array Value} {below : List Frame} {meth : Method} {c : Code} (X : Cx G p s m args meth c cX6_settle 5 RX6 none) {r : Int32} {υ : Hp} {τ : Hp} {H : Heap} {locs : List Loc} {ls : Array Slot} (hH : Hs G τ s H locs) (hl : lv_has ls 5 [(0, .ref (aG G 10)), (1, .ref (aG G 26)), (2, .ref (aG G 18)), (3, .ref (aG G 1)), (4, .ref (aG G 5))]) (hf : f_Pl_settle N 10 26 18 1 5 τ = some (r, υ)) : WV l G (rmG 3 73) p e s m args below meth c υ H locs (F0 m 0 ls []) := by
  have hx := X.hx
  have hb := X.hb
  unfold f_Pl_settle at hf
  refine lv_aload_n hx hb dX6_settle_0 rfl (lv_at hl 0 rfl) ?_
  refine g_get X hH (fa_10_0 G) tw_100 dX6_settle_1 ?_
  refine lv_aload_n hx hb dX6_settle_4 rfl (lv_at hl 1 rfl) ?_
  obtain ⟨r1, τ2, hc3, hf⟩ := e_b hf
  refine c_Vv X hH (k := 11) (n := 1) (As := [.ref (aG G 26)]) (rest := []) (c_Ly_copyRooms_11_26 l G (N := N) hc3) (by decide) rfl rfl tw_347 tw_344 tw_345 tw_346 tw_6 (by decide +kernel) ⟨by decide, by decide⟩ rfl hl.1 rfl (Nat.le_of_ble_eq_true rfl) ⟨Nat.zero_le _, Nat.zero_le _⟩ dX6_settle_5 (fun H locs hH => ?_)
  refine lv_aload_n hx hb dX6_settle_8 rfl (lv_at hl 0 rfl) ?_
  refine g_get X hH (fa_10_1 G) tw_101 dX6_settle_9 ?_
  refine lv_aload_n hx hb dX6_settle_12 rfl (lv_at hl 2 rfl) ?_
  obtain ⟨r4, τ5, hc6, hf⟩ := e_b hf
  refine c_Vv X hH (k := 14) (n := 1) (As := [.ref (aG G 18)]) (rest := []) (c_Nd_copyFrom_14_18 l G (N := N) hc6) (by decide) rfl rfl tw_352 tw_349 tw_350 tw_351 tw_8 (by decide +kernel) ⟨by decide, by decide⟩ rfl hl.1 rfl (Nat.le_of_ble_eq_true rfl) ⟨Nat.zero_le _, Nat.zero_le _⟩ dX6_settle_13 (fun H locs hH => ?_)
  refine lv_aload_n hx hb dX6_settle_16 rfl (lv_at hl 0 rfl) ?_
  refine g_get X hH (fa_10_0 G) tw_100 dX6_settle_17 ?_
  refine lv_aload_n hx hb dX6_settle_20 rfl (lv_at hl 0 rfl) ?_
  refine g_get X hH (fa_10_1 G) tw_101 dX6_settle_21 ?_
  refine g_getN X hH (fa_14_0 G) 33 rfl dX6_settle_24 ?_
  refine lv_aload_n hx hb dX6_settle_27 rfl (lv_at hl 3 rfl) ?_
  refine g_getN X hH (fa_1_2 G) 2 rfl dX6_settle_28 ?_
  refine lv_aload_n hx hb dX6_settle_31 rfl (lv_at hl 3 rfl) ?_
  refine g_getN X hH (fa_1_3 G) 5 rfl dX6_settle_32 ?_
  obtain ⟨r7, τ8, hc9, hf⟩ := e_b hf
  refine c_Vv X hH (k := 11) (n := 3) (As := [.ref (aG G 15), .ref (aG G 4), .int _]) (rest := []) (c_Ly_draw_11_15_4 l G (N := N) hc9) (by decide) rfl rfl tw_317 tw_354 tw_315 tw_316 tw_6 (by decide +kernel) ⟨by decide, by decide⟩ rfl hl.1 rfl (Nat.le_of_ble_eq_true rfl) ⟨Nat.zero_le _, Nat.zero_le _⟩ dX6_settle_35 (fun H locs hH => ?_)
  refine lv_aload_n hx hb dX6_settle_38 rfl (lv_at hl 0 rfl) ?_
  refine lv_aload hx hb dX6_settle_39 (lv_at hl 4 rfl) ?_
  refine lv_aload_n hx hb dX6_settle_41 rfl (lv_at hl 0 rfl) ?_
  refine g_get X hH (fa_10_0 G) tw_100 dX6_settle_42 ?_
  refine g_getN X hH (fa_11_2 G) 27 rfl dX6_settle_45 ?_
  refine lv_aload_n hx hb dX6_settle_48 rfl (lv_at hl 0 rfl) ?_
  refine g_get X hH (fa_10_0 G) tw_100 dX6_settle_49 ?_
  refine g_getN X hH (fa_11_3 G) 29 rfl dX6_settle_52 ?_
  obtain ⟨r10, τ11, hc12, hf⟩ := e_b hf
  refine c_Vi X hH (k := 5) (n := 2) (As := [.int _, .int _]) (rest := [.ref (aG G 10)]) (c_La_costOf_5 l G (N := N) hc12) (by decide) rfl rfl tw_304 tw_355 tw_302 tw_303 tw_3 (by decide +kernel) ⟨by decide, by decide⟩ rfl hl.1 rfl (Nat.le_of_ble_eq_true rfl) ⟨Nat.zero_le _, Nat.zero_le _⟩ dX6_settle_55 (fun H locs hH => ?_)
  obtain ⟨τ13, eτ13, hf⟩ := e_l hf
  refine g_put X hH (fp_10_4 G) tw_104 rfl rfl dX6_settle_58 (fun H locs hH => ?_)
  have hH : Hs G τ13 s H locs := by rw [eτ13]; exact hH
  refine lv_aload_n hx hb dX6_settle_61 rfl (lv_at hl 0 rfl) ?_
  refine lv_iconst (v := 1) hx hb dX6_settle_62 (by decide) ?_
  obtain ⟨τ14, eτ14, hf⟩ := e_l hf
  refine g_put X hH (fp_10_5 G) tw_105 (isB_n rfl) (isB_f rfl) dX6_settle_63 (fun H locs hH => ?_)
  have hH : Hs G τ14 s H locs := by rw [eτ14]; exact hH
  refine lv_aload_n hx hb dX6_settle_66 rfl (lv_at hl 0 rfl) ?_
  obtain ⟨r15, τ16, hc17, hf⟩ := e_b hf
  refine c_Vv X hH (k := 10) (n := 0) (As := []) (rest := []) (c_Pl_listRules_10 l G (N := N) hc17) (by decide) rfl rfl tw_358 tw_356 tw_357 tw_762 tw_5 (by decide +kernel) ⟨by decide, by decide⟩ rfl hl.1 rfl (Nat.le_of_ble_eq_true rfl) ⟨Nat.zero_le _, Nat.zero_le _⟩ dX6_settle_67 (fun H locs hH => ?_)
  exact r_v X hH hf dX6_settle_70
theorem c_Pl_settle_10_26_18_1_5 (l : Launch) (G : GT) {N : Nat} {τ υ : Hp} {r : Int32} (hf : f_Pl_settle N 10 26 18 1 5 τ = some (r, υ)) : MV l G yX6_settle cX6_settle 5 3 73 [.ref (aG G 10), .ref (aG G 26), .ref (aG G 18), .ref (aG G 1), .ref (aG G 5)] τ υ := mk_V (by decide) (Nat.le_of_ble_eq_true rfl) (fun p e s m args below meth c X hH ls hl => b_Pl_settle_10_26_18_1_5_0 (N := N) X hH (lv_sub hl [0, 1, 2, 3, 4] rfl) hf)
set_option maxHeartbeats 4000000 in
set_option maxRecDepth 100000 in
theorem b_WP_plan_0_0 {l : Launch} {G : GT} {N : Nat} {p : Program} {e : Env} {s : State} {m : MethodId} {args : Array Value} {below : List Frame} {meth : Method} {c : Code} (X : Cx G p s m args meth c cX10_plan 2 RX10 (some .int)) {r : Int32} {υ : Hp} {τ : Hp} {v1 : Int32} {H : Heap} {locs : List Loc} {ls : Array Slot} (hH : Hs G τ s H locs) (hl : lv_has ls 2 [(0, .ref (aG G 0)), (1, .int v1)]) (hf : f_WP_plan N 0 τ v1 = some (r, υ)) : WI l G (rmG 5 123) p e s m args below meth c r υ H locs (F0 m 0 ls []) := by
  have hx := X.hx
  have hb := X.hb
  unfold f_WP_plan at hf
  refine lv_iload_n hx hb dX10_plan_0 rfl (lv_at hl 1 rfl) ?_
  obtain ⟨r1, τ2, hc3, hf⟩ := e_b hf
  refine c_Si X hH (n := 1) (As := [.int _]) (rest := []) (c_WP_isDay l G (N := N) hc3) tw_217 tw_215 tw_216 tw_1 (by decide +kernel) ⟨by decide, by decide⟩ rfl hl.1 rfl (Nat.le_of_ble_eq_true rfl) ⟨Nat.zero_le _, Nat.zero_le _⟩ dX10_plan_1 (fun H locs hH => ?_)
  refine lv_if_eq (tgt := 17) hx hb dX10_plan_4 (by decide) (fun c4 => ?_) (fun c4 => ?_)
  · have hf := e_t c4 hf
    refine lv_iconst (v := (-1)) hx hb dX10_plan_17 (by decide) ?_
    exact r_i X hH hf dX10_plan_18
  · have hf := e_f c4 hf
    refine lv_aload_n hx hb dX10_plan_7 rfl (lv_at hl 0 rfl) ?_
    refine g_get X hH (fa_0_0 G) tw_174 dX10_plan_8 ?_
    refine g_getN X hH (fa_1_3 G) 7 rfl dX10_plan_11 ?_
    refine lv_if_ne (tgt := 19) hx hb dX10_plan_14 (by decide) (fun c5 => ?_) (fun c5 => ?_)
    · have hf := e_f c5 hf
      refine lv_aload_n hx hb dX10_plan_19 rfl (lv_at hl 0 rfl) ?_
      refine g_get X hH (fa_0_4 G) tw_178 dX10_plan_20 ?_
      refine lv_aload_n hx hb dX10_plan_23 rfl (lv_at hl 0 rfl) ?_
      refine g_get X hH (fa_0_0 G) tw_174 dX10_plan_24 ?_
      refine lv_aload_n hx hb dX10_plan_27 rfl (lv_at hl 0 rfl) ?_
      refine g_get X hH (fa_0_1 G) tw_175 dX10_plan_28 ?_
      refine lv_aload_n hx hb dX10_plan_31 rfl (lv_at hl 0 rfl) ?_
      refine g_get X hH (fa_0_2 G) tw_176 dX10_plan_32 ?_
      refine lv_iload_n hx hb dX10_plan_35 rfl (lv_at hl 1 rfl) ?_
      obtain ⟨r6, τ7, hc8, hf⟩ := e_b hf
      refine c_Vv X hH (k := 18) (n := 4) (As := [.ref (aG G 1), .ref (aG G 5), .ref (aG G 6), .int _]) (rest := []) (c_Nd_take_18_1_5_6 l G (N := N) hc8) (by decide) rfl rfl tw_277 tw_274 tw_275 tw_276 tw_8 (by decide +kernel) ⟨by decide, by decide⟩ rfl hl.1 rfl (Nat.le_of_ble_eq_true rfl) ⟨Nat.zero_le _, Nat.zero_le _⟩ dX10_plan_36 (fun H locs hH => ?_)
      refine lv_aload_n hx hb dX10_plan_39 rfl (lv_at hl 0 rfl) ?_
      refine g_get X hH (fa_0_5 G) tw_179 dX10_plan_40 ?_
      refine lv_aload_n hx hb dX10_plan_43 rfl (lv_at hl 0 rfl) ?_
      refine g_get X hH (fa_0_0 G) tw_174 dX10_plan_44 ?_
      refine lv_aload_n hx hb dX10_plan_47 rfl (lv_at hl 0 rfl) ?_
      refine g_get X hH (fa_0_1 G) tw_175 dX10_plan_48 ?_
      refine lv_aload_n hx hb dX10_plan_51 rfl (lv_at hl 0 rfl) ?_
      refine g_get X hH (fa_0_4 G) tw_178 dX10_plan_52 ?_
      obtain ⟨r9, τ10, hc11, hf⟩ := e_b hf
      refine c_Vv X hH (k := 21) (n := 3) (As := [.ref (aG G 1), .ref (aG G 5), .ref (aG G 18)]) (rest := []) (c_Sk_seekRooms_21_1_5_18 l G (N := N) hc11) (by decide) rfl rfl tw_290 tw_287 tw_288 tw_289 tw_9 (by decide +kernel) ⟨by decide, by decide⟩ rfl hl.1 rfl (Nat.le_of_ble_eq_true rfl) ⟨Nat.zero_le _, Nat.zero_le _⟩ dX10_plan_55 (fun H locs hH => ?_)
      refine lv_aload_n hx hb dX10_plan_58 rfl (lv_at hl 0 rfl) ?_
      refine g_get X hH (fa_0_3 G) tw_177 dX10_plan_59 ?_
      refine lv_aload_n hx hb dX10_plan_62 rfl (lv_at hl 0 rfl) ?_
      refine g_get X hH (fa_0_5 G) tw_179 dX10_plan_63 ?_
      refine g_getN X hH (fa_21_2 G) 48 rfl dX10_plan_66 ?_
      refine lv_aload_n hx hb dX10_plan_69 rfl (lv_at hl 0 rfl) ?_
      refine g_get X hH (fa_0_4 G) tw_178 dX10_plan_70 ?_
      refine lv_aload_n hx hb dX10_plan_73 rfl (lv_at hl 0 rfl) ?_
      refine g_get X hH (fa_0_0 G) tw_174 dX10_plan_74 ?_
      refine lv_aload_n hx hb dX10_plan_77 rfl (lv_at hl 0 rfl) ?_
      refine g_get X hH (fa_0_1 G) tw_175 dX10_plan_78 ?_
      obtain ⟨r12, τ13, hc14, hf⟩ := e_b hf
      refine c_Vv X hH (k := 10) (n := 4) (As := [.ref (aG G 26), .ref (aG G 18), .ref (aG G 1), .ref (aG G 5)]) (rest := []) (c_Pl_settle_10_26_18_1_5 l G (N := N) hc14) (by decide) rfl rfl tw_343 tw_340 tw_341 tw_342 tw_5 (by decide +kernel) ⟨by decide, by decide⟩ rfl hl.1 rfl (Nat.le_of_ble_eq_true rfl) ⟨Nat.zero_le _, Nat.zero_le _⟩ dX10_plan_81 (fun H locs hH => ?_)
      refine lv_aload_n hx hb dX10_plan_84 rfl (lv_at hl 0 rfl) ?_
      refine g_get X hH (fa_0_3 G) tw_177 dX10_plan_85 ?_
      refine g_getN X hH (fa_10_4 G) 46 rfl dX10_plan_88 ?_
      exact r_i X hH hf dX10_plan_91
    · have hf := e_t c5 hf
      refine lv_iconst (v := (-1)) hx hb dX10_plan_17 (by decide) ?_
      exact r_i X hH hf dX10_plan_18
theorem c_WP_plan_0 (l : Launch) (G : GT) {N : Nat} {τ υ : Hp} {v1 : Int32} {r : Int32} (hf : f_WP_plan N 0 τ v1 = some (r, υ)) : MI l G yX10_plan cX10_plan 2 (some .int) 5 123 [.ref (aG G 0), .int v1] τ r υ := mk_I (by decide) (Nat.le_of_ble_eq_true rfl) (fun p e s m args below meth c X hH ls hl => b_WP_plan_0_0 (N := N) X hH (lv_sub hl [0, 1] rfl) hf)
set_option maxHeartbeats 4000000 in
set_option maxRecDepth 100000 in
theorem b_Mo_goesOn_42_64b {l : Launch} {G : GT} {N : Nat} {p : Program} {e : Env} {s : State} {m : MethodId} {args : Array Value} {below : List Frame} {meth : Method} {c : Code} (X : Cx G p s m args meth c cX11_goesOn 4 RX11 (some .boolean)) {r : Int32} {υ : Hp} {k64 : Hp → Int32 → OR} (hk64 : ∀ (τ : Hp) (v3 : Int32) (H : Heap) (locs : List Loc) (ls : Array Slot), Hs G τ s H locs → lv_has ls 4 [(0, .ref (aG G 42)), (3, .int v3)] → k64 τ v3 = some (r, υ) → WI l G (rmG 1 21) p e s m args below meth c r υ H locs (F0 m 64 ls [])) {τ : Hp} {v3 : Int32} {H : Heap} {locs : List Loc} {ls : Array Slot} (hH : Hs G τ s H locs) (hl : lv_has ls 4 [(0, .ref (aG G 42)), (3, .int v3)]) (hf : f_Mo_goesOn_L64b N 42 k64 τ v3 = some (r, υ)) : WI l G (rmG 1 21) p e s m args below meth c r υ H locs (F0 m 64 ls []) := by
  have hx := X.hx
  have hb := X.hb
  unfold f_Mo_goesOn_L64b at hf
  refine lv_iload_n hx hb dX11_goesOn_64 rfl (lv_at hl 1 rfl) ?_
  refine lv_aload_n hx hb dX11_goesOn_65 rfl (lv_at hl 0 rfl) ?_
  refine g_get X hH (fa_42_1 G) tw_527 dX11_goesOn_66 ?_
  refine lv_icmp_ge (tgt := 85) hx hb dX11_goesOn_69 (by decide) (fun c1 => ?_) (fun c1 => ?_)
  · have hf := e_t c1 hf
    refine lv_iconst (v := 1) hx hb dX11_goesOn_85 (by decide) ?_
    exact r_z X hH rfl hf dX11_goesOn_86
  · have hf := e_f c1 hf
    refine lv_aload_n hx hb dX11_goesOn_72 rfl (lv_at hl 0 rfl) ?_
    refine g_get X hH (fa_42_22 G) tw_548 dX11_goesOn_73 ?_
    refine lv_iload_n hx hb dX11_goesOn_76 rfl (lv_at hl 1 rfl) ?_
    refine lv_iconst (v := 0) hx hb dX11_goesOn_77 (by decide) ?_
    obtain ⟨g2, hf⟩ := e_g hf
    obtain ⟨τ3, eτ3, hf⟩ := e_l hf
    refine a_st X hH (aa_54 G) g2 dX11_goesOn_78 (fun H locs hH => ?_)
    have hH : Hs G τ3 s H locs := by rw [eτ3]; exact hH
    obtain ⟨x4, ex4, hf⟩ := e_l hf
    refine lv_iinc (v := x4) (lv' := [(3, .int x4), (0, .ref (aG G 42))]) hx hb dX11_goesOn_79 hl (k := 1) rfl (by rw [ex4]; rfl) (by decide) rfl (fun ls hl => ?_)
    refine lv_goto (tgt := 64) hx hb dX11_goesOn_82 (by decide) ?_
    exact hk64 _ _ _ _ _ hH (lv_sub hl [1, 0] rfl) hf
theorem b_Mo_goesOn_42_64 {l : Launch} {G : GT} {N : Nat} {p : Program} {e : Env} {s : State} {m : MethodId} {args : Array Value} {below : List Frame} {meth : Method} {c : Code} (X : Cx G p s m args meth c cX11_goesOn 4 RX11 (some .boolean)) {r : Int32} {υ : Hp} : ∀ (n : Nat) (τ : Hp) (v3 : Int32) (H : Heap) (locs : List Loc) (ls : Array Slot), Hs G τ s H locs → lv_has ls 4 [(0, .ref (aG G 42)), (3, .int v3)] → f_Mo_goesOn_L64 N 42 n τ v3 = some (r, υ) → WI l G (rmG 1 21) p e s m args below meth c r υ H locs (F0 m 64 ls []) := by
  intro n
  induction n with
  | zero => intro τ v3 H locs ls hH hl hf; exact nomatch (show (none : OR) = some (r, υ) from hf)
  | succ n ih => intro τ v3 H locs ls hH hl hf; exact b_Mo_goesOn_42_64b (N := N) X ih hH hl hf
set_option maxHeartbeats 4000000 in
set_option maxRecDepth 100000 in
theorem b_Mo_goesOn_42_15b {l : Launch} {G : GT} {N : Nat} {p : Program} {e : Env} {s : State} {m : MethodId} {args : Array Value} {below : List Frame} {meth : Method} {c : Code} (X : Cx G p s m args meth c cX11_goesOn 4 RX11 (some .boolean)) {r : Int32} {υ : Hp} {k7 : Hp → Int32 → OR} (hk7 : ∀ (τ : Hp) (v1 : Int32) (H : Heap) (locs : List Loc) (ls : Array Slot), Hs G τ s H locs → lv_has ls 4 [(0, .ref (aG G 42)), (1, .int v1)] → k7 τ v1 = some (r, υ) → WI l G (rmG 1 21) p e s m args below meth c r υ H locs (F0 m 7 ls [])) {k15 : Hp → Int32 → Int32 → Int32 → OR} (hk15 : ∀ (τ : Hp) (v1 v2 v3 : Int32) (H : Heap) (locs : List Loc) (ls : Array Slot), Hs G τ s H locs → lv_has ls 4 [(0, .ref (aG G 42)), (1, .int v1), (2, .int v2), (3, .int v3)] → k15 τ v1 v2 v3 = some (r, υ) → WI l G (rmG 1 21) p e s m args below meth c r υ H locs (F0 m 15 ls [])) {τ : Hp} {v1 v2 v3 : Int32} {H : Heap} {locs : List Loc} {ls : Array Slot} (hH : Hs G τ s H locs) (hl : lv_has ls 4 [(0, .ref (aG G 42)), (1, .int v1), (2, .int v2), (3, .int v3)]) (hf : f_Mo_goesOn_L15b N 42 k7 k15 τ v1 v2 v3 = some (r, υ)) : WI l G (rmG 1 21) p e s m args below meth c r υ H locs (F0 m 15 ls []) := by
  have hx := X.hx
  have hb := X.hb
  unfold f_Mo_goesOn_L15b at hf
  refine lv_iload_n hx hb dX11_goesOn_15 rfl (lv_at hl 3 rfl) ?_
  refine lv_iload_n hx hb dX11_goesOn_16 rfl (lv_at hl 1 rfl) ?_
  refine lv_icmp_ge (tgt := 37) hx hb dX11_goesOn_17 (by decide) (fun c1 => ?_) (fun c1 => ?_)
  · have hf := e_t c1 hf
    refine lv_aload_n hx hb dX11_goesOn_37 rfl (lv_at hl 0 rfl) ?_
    refine g_get X hH (fa_42_22 G) tw_548 dX11_goesOn_38 ?_
    refine lv_iload_n hx hb dX11_goesOn_41 rfl (lv_at hl 1 rfl) ?_
    obtain ⟨g2, hf⟩ := e_g hf
    refine a_ld X hH (aa_54 G) g2 dX11_goesOn_42 ?_
    refine lv_iload_n hx hb dX11_goesOn_43 rfl (lv_at hl 2 rfl) ?_
    refine lv_icmp_le (tgt := 50) hx hb dX11_goesOn_44 (by decide) (fun c3 => ?_) (fun c3 => ?_)
    · have hf := e_t c3 hf
      refine lv_aload_n hx hb dX11_goesOn_50 rfl (lv_at hl 0 rfl) ?_
      refine g_get X hH (fa_42_22 G) tw_548 dX11_goesOn_51 ?_
      refine lv_iload_n hx hb dX11_goesOn_54 rfl (lv_at hl 1 rfl) ?_
      refine lv_dup2_11 hx hb dX11_goesOn_55 rfl rfl ?_
      obtain ⟨g4, hf⟩ := e_g hf
      refine a_ld X hH (aa_54 G) g4 dX11_goesOn_56 ?_
      refine lv_iconst (v := 1) hx hb dX11_goesOn_57 (by decide) ?_
      refine lv_iadd hx hb dX11_goesOn_58 ?_
      obtain ⟨g5, hf⟩ := e_g hf
      obtain ⟨τ6, eτ6, hf⟩ := e_l hf
      refine a_st X hH (aa_54 G) g5 dX11_goesOn_59 (fun H locs hH => ?_)
      have hH : Hs G τ6 s H locs := by rw [eτ6]; exact hH
      refine lv_iload_n hx hb dX11_goesOn_60 rfl (lv_at hl 1 rfl) ?_
      refine lv_iconst (v := 1) hx hb dX11_goesOn_61 (by decide) ?_
      refine lv_iadd hx hb dX11_goesOn_62 ?_
      obtain ⟨x7, ex7, hf⟩ := e_l hf
      refine g_nm ex7 ?_
      refine lv_istore_n (lv' := [(3, .int x7), (0, .ref (aG G 42)), (1, .int v1), (2, .int v2)]) hx hb dX11_goesOn_63 rfl hl (by decide) rfl (fun ls hl => ?_)
      exact b_Mo_goesOn_42_64 (N := N) X _ _ _ _ _ _ hH (lv_sub hl [1, 0] rfl) hf
    · have hf := e_f c3 hf
      refine lv_goto (tgt := 87) hx hb dX11_goesOn_47 (by decide) ?_
      obtain ⟨x8, ex8, hf⟩ := e_l hf
      refine lv_iinc (v := x8) (lv' := [(1, .int x8), (0, .ref (aG G 42)), (2, .int v2), (3, .int v3)]) hx hb dX11_goesOn_87 hl (k := 1) rfl (by rw [ex8]; rfl) (by decide) rfl (fun ls hl => ?_)
      refine lv_goto (tgt := 7) hx hb dX11_goesOn_90 (by decide) ?_
      exact hk7 _ _ _ _ _ hH (lv_sub hl [1, 0] rfl) hf
  · have hf := e_f c1 hf
    refine lv_iload_n hx hb dX11_goesOn_20 rfl (lv_at hl 2 rfl) ?_
    refine lv_aload_n hx hb dX11_goesOn_21 rfl (lv_at hl 0 rfl) ?_
    refine g_get X hH (fa_42_22 G) tw_548 dX11_goesOn_22 ?_
    refine lv_iload_n hx hb dX11_goesOn_25 rfl (lv_at hl 3 rfl) ?_
    obtain ⟨g9, hf⟩ := e_g hf
    refine a_ld X hH (aa_54 G) g9 dX11_goesOn_26 ?_
    refine g_max X hl.1.symm tw_674 tw_338 tw_16 tw_339 (by decide) (Nat.le_of_ble_eq_true rfl) ⟨Nat.zero_le _, Nat.zero_le _⟩ dX11_goesOn_27 ?_
    obtain ⟨x10, ex10, hf⟩ := e_l hf
    refine g_nm ex10 ?_
    refine lv_istore_n (lv' := [(2, .int x10), (0, .ref (aG G 42)), (1, .int v1), (3, .int v3)]) hx hb dX11_goesOn_30 rfl hl (by decide) rfl (fun ls hl => ?_)
    obtain ⟨x11, ex11, hf⟩ := e_l hf
    refine lv_iinc (v := x11) (lv' := [(3, .int x11), (2, .int x10), (0, .ref (aG G 42)), (1, .int v1)]) hx hb dX11_goesOn_31 hl (k := 3) rfl (by rw [ex11]; rfl) (by decide) rfl (fun ls hl => ?_)
    refine lv_goto (tgt := 15) hx hb dX11_goesOn_34 (by decide) ?_
    exact hk15 _ _ _ _ _ _ _ hH (lv_sub hl [2, 3, 1, 0] rfl) hf
theorem b_Mo_goesOn_42_15 {l : Launch} {G : GT} {N : Nat} {p : Program} {e : Env} {s : State} {m : MethodId} {args : Array Value} {below : List Frame} {meth : Method} {c : Code} (X : Cx G p s m args meth c cX11_goesOn 4 RX11 (some .boolean)) {r : Int32} {υ : Hp} {k7 : Hp → Int32 → OR} (hk7 : ∀ (τ : Hp) (v1 : Int32) (H : Heap) (locs : List Loc) (ls : Array Slot), Hs G τ s H locs → lv_has ls 4 [(0, .ref (aG G 42)), (1, .int v1)] → k7 τ v1 = some (r, υ) → WI l G (rmG 1 21) p e s m args below meth c r υ H locs (F0 m 7 ls [])) : ∀ (n : Nat) (τ : Hp) (v1 v2 v3 : Int32) (H : Heap) (locs : List Loc) (ls : Array Slot), Hs G τ s H locs → lv_has ls 4 [(0, .ref (aG G 42)), (1, .int v1), (2, .int v2), (3, .int v3)] → f_Mo_goesOn_L15 N 42 k7 n τ v1 v2 v3 = some (r, υ) → WI l G (rmG 1 21) p e s m args below meth c r υ H locs (F0 m 15 ls []) := by
  intro n
  induction n with
  | zero => intro τ v1 v2 v3 H locs ls hH hl hf; exact nomatch (show (none : OR) = some (r, υ) from hf)
  | succ n ih => intro τ v1 v2 v3 H locs ls hH hl hf; exact b_Mo_goesOn_42_15b (N := N) X hk7 ih hH hl hf
set_option maxHeartbeats 4000000 in
set_option maxRecDepth 100000 in
theorem b_Mo_goesOn_42_7b {l : Launch} {G : GT} {N : Nat} {p : Program} {e : Env} {s : State} {m : MethodId} {args : Array Value} {below : List Frame} {meth : Method} {c : Code} (X : Cx G p s m args meth c cX11_goesOn 4 RX11 (some .boolean)) {r : Int32} {υ : Hp} {k7 : Hp → Int32 → OR} (hk7 : ∀ (τ : Hp) (v1 : Int32) (H : Heap) (locs : List Loc) (ls : Array Slot), Hs G τ s H locs → lv_has ls 4 [(0, .ref (aG G 42)), (1, .int v1)] → k7 τ v1 = some (r, υ) → WI l G (rmG 1 21) p e s m args below meth c r υ H locs (F0 m 7 ls [])) {τ : Hp} {v1 : Int32} {H : Heap} {locs : List Loc} {ls : Array Slot} (hH : Hs G τ s H locs) (hl : lv_has ls 4 [(0, .ref (aG G 42)), (1, .int v1)]) (hf : f_Mo_goesOn_L7b N 42 k7 τ v1 = some (r, υ)) : WI l G (rmG 1 21) p e s m args below meth c r υ H locs (F0 m 7 ls []) := by
  have hx := X.hx
  have hb := X.hb
  unfold f_Mo_goesOn_L7b at hf
  refine lv_iload_n hx hb dX11_goesOn_7 rfl (lv_at hl 1 rfl) ?_
  refine lv_if_le (tgt := 93) hx hb dX11_goesOn_8 (by decide) (fun c1 => ?_) (fun c1 => ?_)
  · have hf := e_t c1 hf
    refine lv_iconst (v := 0) hx hb dX11_goesOn_93 (by decide) ?_
    exact r_z X hH rfl hf dX11_goesOn_94
  · have hf := e_f c1 hf
    refine lv_iconst (v := (-1)) hx hb dX11_goesOn_11 (by decide) ?_
    refine lv_istore_n (lv' := [(2, .int (-1)), (0, .ref (aG G 42)), (1, .int v1)]) hx hb dX11_goesOn_12 rfl hl (by decide) rfl (fun ls hl => ?_)
    refine lv_iconst (v := 0) hx hb dX11_goesOn_13 (by decide) ?_
    refine lv_istore_n (lv' := [(3, .int 0), (2, .int (-1)), (0, .ref (aG G 42)), (1, .int v1)]) hx hb dX11_goesOn_14 rfl hl (by decide) rfl (fun ls hl => ?_)
    exact b_Mo_goesOn_42_15 (N := N) X hk7 _ _ _ _ _ _ _ _ hH (lv_sub hl [2, 3, 1, 0] rfl) hf
theorem b_Mo_goesOn_42_7 {l : Launch} {G : GT} {N : Nat} {p : Program} {e : Env} {s : State} {m : MethodId} {args : Array Value} {below : List Frame} {meth : Method} {c : Code} (X : Cx G p s m args meth c cX11_goesOn 4 RX11 (some .boolean)) {r : Int32} {υ : Hp} : ∀ (n : Nat) (τ : Hp) (v1 : Int32) (H : Heap) (locs : List Loc) (ls : Array Slot), Hs G τ s H locs → lv_has ls 4 [(0, .ref (aG G 42)), (1, .int v1)] → f_Mo_goesOn_L7 N 42 n τ v1 = some (r, υ) → WI l G (rmG 1 21) p e s m args below meth c r υ H locs (F0 m 7 ls []) := by
  intro n
  induction n with
  | zero => intro τ v1 H locs ls hH hl hf; exact nomatch (show (none : OR) = some (r, υ) from hf)
  | succ n ih => intro τ v1 H locs ls hH hl hf; exact b_Mo_goesOn_42_7b (N := N) X ih hH hl hf
set_option maxHeartbeats 4000000 in
set_option maxRecDepth 100000 in
theorem b_Mo_goesOn_42_0 {l : Launch} {G : GT} {N : Nat} {p : Program} {e : Env} {s : State} {m : MethodId} {args : Array Value} {below : List Frame} {meth : Method} {c : Code} (X : Cx G p s m args meth c cX11_goesOn 4 RX11 (some .boolean)) {r : Int32} {υ : Hp} {τ : Hp} {H : Heap} {locs : List Loc} {ls : Array Slot} (hH : Hs G τ s H locs) (hl : lv_has ls 4 [(0, .ref (aG G 42))]) (hf : f_Mo_goesOn N 42 τ = some (r, υ)) : WI l G (rmG 1 21) p e s m args below meth c r υ H locs (F0 m 0 ls []) := by
  have hx := X.hx
  have hb := X.hb
  unfold f_Mo_goesOn at hf
  refine lv_aload_n hx hb dX11_goesOn_0 rfl (lv_at hl 0 rfl) ?_
  refine g_get X hH (fa_42_1 G) tw_527 dX11_goesOn_1 ?_
  refine lv_iconst (v := 1) hx hb dX11_goesOn_4 (by decide) ?_
  refine lv_isub hx hb dX11_goesOn_5 ?_
  obtain ⟨x1, ex1, hf⟩ := e_l hf
  refine g_nm ex1 ?_
  refine lv_istore_n (lv' := [(1, .int x1), (0, .ref (aG G 42))]) hx hb dX11_goesOn_6 rfl hl (by decide) rfl (fun ls hl => ?_)
  exact b_Mo_goesOn_42_7 (N := N) X _ _ _ _ _ _ hH (lv_sub hl [1, 0] rfl) hf
theorem c_Mo_goesOn_42 (l : Launch) (G : GT) {N : Nat} {τ υ : Hp} {r : Int32} (hf : f_Mo_goesOn N 42 τ = some (r, υ)) : MI l G yX11_goesOn cX11_goesOn 4 (some .boolean) 1 21 [.ref (aG G 42)] τ r υ := mk_I (by decide) (Nat.le_of_ble_eq_true rfl) (fun p e s m args below meth c X hH ls hl => b_Mo_goesOn_42_0 (N := N) X hH (lv_sub hl [0] rfl) hf)
set_option maxHeartbeats 4000000 in
set_option maxRecDepth 100000 in
theorem b_Mo_isTried_42_0 {l : Launch} {G : GT} {N : Nat} {p : Program} {e : Env} {s : State} {m : MethodId} {args : Array Value} {below : List Frame} {meth : Method} {c : Code} (X : Cx G p s m args meth c cX11_isTried 2 RX11 (some .boolean)) {r : Int32} {υ : Hp} {τ : Hp} {v1 : Int32} {H : Heap} {locs : List Loc} {ls : Array Slot} (hH : Hs G τ s H locs) (hl : lv_has ls 2 [(0, .ref (aG G 42)), (1, .int v1)]) (hf : f_Mo_isTried N 42 τ v1 = some (r, υ)) : WI l G (rmG 2 44) p e s m args below meth c r υ H locs (F0 m 0 ls []) := by
  have hx := X.hx
  have hb := X.hb
  unfold f_Mo_isTried at hf
  refine lv_aload_n hx hb dX11_isTried_0 rfl (lv_at hl 0 rfl) ?_
  refine lv_iload_n hx hb dX11_isTried_1 rfl (lv_at hl 1 rfl) ?_
  refine lv_bipush (v := 32) hx hb dX11_isTried_2 (by decide) ?_
  refine lv_idiv hx hb dX11_isTried_4 (by decide) ?_
  refine lv_iload_n hx hb dX11_isTried_5 rfl (lv_at hl 1 rfl) ?_
  refine lv_iconst (v := 4) hx hb dX11_isTried_6 (by decide) ?_
  refine lv_idiv hx hb dX11_isTried_7 (by decide) ?_
  refine lv_bipush (v := 8) hx hb dX11_isTried_8 (by decide) ?_
  refine lv_irem hx hb dX11_isTried_10 (by decide) ?_
  refine lv_iload_n hx hb dX11_isTried_11 rfl (lv_at hl 1 rfl) ?_
  refine lv_iconst (v := 4) hx hb dX11_isTried_12 (by decide) ?_
  refine lv_irem hx hb dX11_isTried_13 (by decide) ?_
  obtain ⟨r1, τ2, hc3, hf⟩ := e_b hf
  refine c_Vi X hH (k := 42) (n := 3) (As := [.int _, .int _, .int _]) (rest := []) (c_Mo_way_42 l G (N := N) hc3) (by decide) rfl rfl tw_615 tw_613 tw_614 tw_769 tw_13 (by decide +kernel) ⟨by decide, by decide⟩ rfl hl.1 rfl (Nat.le_of_ble_eq_true rfl) ⟨Nat.zero_le _, Nat.zero_le _⟩ dX11_isTried_14 (fun H locs hH => ?_)
  refine lv_iconst (v := (-1)) hx hb dX11_isTried_17 (by decide) ?_
  refine lv_icmp_eq (tgt := 53) hx hb dX11_isTried_18 (by decide) (fun c4 => ?_) (fun c4 => ?_)
  · have hf := e_t c4 hf
    refine lv_iconst (v := 0) hx hb dX11_isTried_53 (by decide) ?_
    exact r_z X hH rfl hf dX11_isTried_54
  · have hf := e_f c4 hf
    refine lv_aload_n hx hb dX11_isTried_21 rfl (lv_at hl 0 rfl) ?_
    refine g_get X hH (fa_42_22 G) tw_548 dX11_isTried_22 ?_
    refine lv_iload_n hx hb dX11_isTried_25 rfl (lv_at hl 1 rfl) ?_
    refine lv_bipush (v := 32) hx hb dX11_isTried_26 (by decide) ?_
    refine lv_idiv hx hb dX11_isTried_28 (by decide) ?_
    obtain ⟨g5, hf⟩ := e_g hf
    refine a_ld X hH (aa_54 G) g5 dX11_isTried_29 ?_
    refine lv_iconst (v := (-1)) hx hb dX11_isTried_30 (by decide) ?_
    refine lv_icmp_eq (tgt := 53) hx hb dX11_isTried_31 (by decide) (fun c6 => ?_) (fun c6 => ?_)
    · have hf := e_t c6 hf
      refine lv_iconst (v := 0) hx hb dX11_isTried_53 (by decide) ?_
      exact r_z X hH rfl hf dX11_isTried_54
    · have hf := e_f c6 hf
      refine lv_aload_n hx hb dX11_isTried_34 rfl (lv_at hl 0 rfl) ?_
      refine g_get X hH (fa_42_22 G) tw_548 dX11_isTried_35 ?_
      refine lv_iload_n hx hb dX11_isTried_38 rfl (lv_at hl 1 rfl) ?_
      refine lv_iconst (v := 4) hx hb dX11_isTried_39 (by decide) ?_
      refine lv_idiv hx hb dX11_isTried_40 (by decide) ?_
      refine lv_bipush (v := 8) hx hb dX11_isTried_41 (by decide) ?_
      refine lv_irem hx hb dX11_isTried_43 (by decide) ?_
      obtain ⟨g7, hf⟩ := e_g hf
      refine a_ld X hH (aa_54 G) g7 dX11_isTried_44 ?_
      refine lv_iconst (v := (-1)) hx hb dX11_isTried_45 (by decide) ?_
      refine lv_icmp_eq (tgt := 53) hx hb dX11_isTried_46 (by decide) (fun c8 => ?_) (fun c8 => ?_)
      · have hf := e_t c8 hf
        refine lv_iconst (v := 0) hx hb dX11_isTried_53 (by decide) ?_
        exact r_z X hH rfl hf dX11_isTried_54
      · have hf := e_f c8 hf
        refine lv_iconst (v := 1) hx hb dX11_isTried_49 (by decide) ?_
        refine lv_goto (tgt := 54) hx hb dX11_isTried_50 (by decide) ?_
        exact r_z X hH rfl hf dX11_isTried_54
theorem c_Mo_isTried_42 (l : Launch) (G : GT) {N : Nat} {τ υ : Hp} {v1 : Int32} {r : Int32} (hf : f_Mo_isTried N 42 τ v1 = some (r, υ)) : MI l G yX11_isTried cX11_isTried 2 (some .boolean) 2 44 [.ref (aG G 42), .int v1] τ r υ := mk_I (by decide) (Nat.le_of_ble_eq_true rfl) (fun p e s m args below meth c X hH ls hl => b_Mo_isTried_42_0 (N := N) X hH (lv_sub hl [0, 1] rfl) hf)
set_option maxHeartbeats 4000000 in
set_option maxRecDepth 100000 in
theorem b_Mo_between_42_0 {l : Launch} {G : GT} {N : Nat} {p : Program} {e : Env} {s : State} {m : MethodId} {args : Array Value} {below : List Frame} {meth : Method} {c : Code} (X : Cx G p s m args meth c cX11_between 2 RX11 (some .int)) {r : Int32} {υ : Hp} {τ : Hp} {v1 : Int32} {H : Heap} {locs : List Loc} {ls : Array Slot} (hH : Hs G τ s H locs) (hl : lv_has ls 2 [(0, .ref (aG G 42)), (1, .int v1)]) (hf : f_Mo_between N 42 τ v1 = some (r, υ)) : WI l G (rmG 0 0) p e s m args below meth c r υ H locs (F0 m 0 ls []) := by
  have hx := X.hx
  have hb := X.hb
  unfold f_Mo_between at hf
  refine lv_bipush (v := 32) hx hb dX11_between_0 (by decide) ?_
  refine lv_aload_n hx hb dX11_between_2 rfl (lv_at hl 0 rfl) ?_
  refine g_get X hH (fa_42_22 G) tw_548 dX11_between_3 ?_
  refine lv_iload_n hx hb dX11_between_6 rfl (lv_at hl 1 rfl) ?_
  refine lv_bipush (v := 32) hx hb dX11_between_7 (by decide) ?_
  refine lv_idiv hx hb dX11_between_9 (by decide) ?_
  obtain ⟨g1, hf⟩ := e_g hf
  refine a_ld X hH (aa_54 G) g1 dX11_between_10 ?_
  refine lv_imul hx hb dX11_between_11 ?_
  refine lv_iconst (v := 4) hx hb dX11_between_12 (by decide) ?_
  refine lv_aload_n hx hb dX11_between_13 rfl (lv_at hl 0 rfl) ?_
  refine g_get X hH (fa_42_22 G) tw_548 dX11_between_14 ?_
  refine lv_iload_n hx hb dX11_between_17 rfl (lv_at hl 1 rfl) ?_
  refine lv_iconst (v := 4) hx hb dX11_between_18 (by decide) ?_
  refine lv_idiv hx hb dX11_between_19 (by decide) ?_
  refine lv_bipush (v := 8) hx hb dX11_between_20 (by decide) ?_
  refine lv_irem hx hb dX11_between_22 (by decide) ?_
  obtain ⟨g2, hf⟩ := e_g hf
  refine a_ld X hH (aa_54 G) g2 dX11_between_23 ?_
  refine lv_imul hx hb dX11_between_24 ?_
  refine lv_iadd hx hb dX11_between_25 ?_
  refine lv_iload_n hx hb dX11_between_26 rfl (lv_at hl 1 rfl) ?_
  refine lv_iconst (v := 4) hx hb dX11_between_27 (by decide) ?_
  refine lv_irem hx hb dX11_between_28 (by decide) ?_
  refine lv_iadd hx hb dX11_between_29 ?_
  exact r_i X hH hf dX11_between_30
theorem c_Mo_between_42 (l : Launch) (G : GT) {N : Nat} {τ υ : Hp} {v1 : Int32} {r : Int32} (hf : f_Mo_between N 42 τ v1 = some (r, υ)) : MI l G yX11_between cX11_between 2 (some .int) 0 0 [.ref (aG G 42), .int v1] τ r υ := mk_I (by decide) (Nat.le_of_ble_eq_true rfl) (fun p e s m args below meth c X hH ls hl => b_Mo_between_42_0 (N := N) X hH (lv_sub hl [0, 1] rfl) hf)
set_option maxHeartbeats 4000000 in
set_option maxRecDepth 100000 in
theorem b_Mo_costs_42_191 {l : Launch} {G : GT} {N : Nat} {p : Program} {e : Env} {s : State} {m : MethodId} {args : Array Value} {below : List Frame} {meth : Method} {c : Code} (X : Cx G p s m args meth c cX11_costs 4 RX11 (some .int)) {r : Int32} {υ : Hp} {k116 : Hp → Int32 → Int32 → OR} (hk116 : ∀ (τ : Hp) (v1 v2 : Int32) (H : Heap) (locs : List Loc) (ls : Array Slot), Hs G τ s H locs → lv_has ls 4 [(0, .ref (aG G 42)), (1, .int v1), (2, .int v2)] → k116 τ v1 v2 = some (r, υ) → WI l G (rmG 3 65) p e s m args below meth c r υ H locs (F0 m 116 ls [])) {τ : Hp} {v1 v2 v3 : Int32} {H : Heap} {locs : List Loc} {ls : Array Slot} (hH : Hs G τ s H locs) (hl : lv_has ls 4 [(0, .ref (aG G 42)), (1, .int v1), (2, .int v2), (3, .int v3)]) (hf : f_Mo_costs_J191 N 42 k116 τ v1 v2 v3 = some (r, υ)) : WI l G (rmG 3 65) p e s m args below meth c r υ H locs (F0 m 191 ls []) := by
  have hx := X.hx
  have hb := X.hb
  unfold f_Mo_costs_J191 at hf
  refine lv_aload_n hx hb dX11_costs_191 rfl (lv_at hl 0 rfl) ?_
  refine lv_dup hx hb dX11_costs_192 rfl ?_
  refine g_get X hH (fa_42_26 G) tw_552 dX11_costs_193 ?_
  refine lv_iload_n hx hb dX11_costs_196 rfl (lv_at hl 3 rfl) ?_
  refine lv_if_eq (tgt := 213) hx hb dX11_costs_197 (by decide) (fun c1 => ?_) (fun c1 => ?_)
  · have hf := e_t c1 hf
    refine lv_iconst (v := 0) hx hb dX11_costs_213 (by decide) ?_
    refine lv_iadd hx hb dX11_costs_214 ?_
    obtain ⟨τ2, eτ2, hf⟩ := e_l hf
    refine g_put X hH (fp_42_26 G) tw_552 rfl rfl dX11_costs_215 (fun H locs hH => ?_)
    have hH : Hs G τ2 s H locs := by rw [eτ2]; exact hH
    obtain ⟨x3, ex3, hf⟩ := e_l hf
    refine lv_iinc (v := x3) (lv' := [(2, .int x3), (0, .ref (aG G 42)), (1, .int v1), (3, .int v3)]) hx hb dX11_costs_218 hl (k := 2) rfl (by rw [ex3]; rfl) (by decide) rfl (fun ls hl => ?_)
    refine lv_goto (tgt := 116) hx hb dX11_costs_221 (by decide) ?_
    exact hk116 _ _ _ _ _ _ hH (lv_sub hl [1, 2, 0] rfl) hf
  · have hf := e_f c1 hf
    refine lv_aload_n hx hb dX11_costs_200 rfl (lv_at hl 0 rfl) ?_
    refine g_get X hH (fa_42_15 G) tw_541 dX11_costs_201 ?_
    refine lv_iload_n hx hb dX11_costs_204 rfl (lv_at hl 2 rfl) ?_
    obtain ⟨g4, hf⟩ := e_g hf
    refine z_ld X hH (aa_50 G) g4 dX11_costs_205 ?_
    refine lv_if_ne (tgt := 213) hx hb dX11_costs_206 (by decide) (fun c5 => ?_) (fun c5 => ?_)
    · have hf := e_f c5 hf
      refine lv_iconst (v := 0) hx hb dX11_costs_213 (by decide) ?_
      refine lv_iadd hx hb dX11_costs_214 ?_
      obtain ⟨τ6, eτ6, hf⟩ := e_l hf
      refine g_put X hH (fp_42_26 G) tw_552 rfl rfl dX11_costs_215 (fun H locs hH => ?_)
      have hH : Hs G τ6 s H locs := by rw [eτ6]; exact hH
      obtain ⟨x7, ex7, hf⟩ := e_l hf
      refine lv_iinc (v := x7) (lv' := [(2, .int x7), (0, .ref (aG G 42)), (1, .int v1), (3, .int v3)]) hx hb dX11_costs_218 hl (k := 2) rfl (by rw [ex7]; rfl) (by decide) rfl (fun ls hl => ?_)
      refine lv_goto (tgt := 116) hx hb dX11_costs_221 (by decide) ?_
      exact hk116 _ _ _ _ _ _ hH (lv_sub hl [1, 2, 0] rfl) hf
    · have hf := e_t c5 hf
      refine lv_iconst (v := 1) hx hb dX11_costs_209 (by decide) ?_
      refine lv_goto (tgt := 214) hx hb dX11_costs_210 (by decide) ?_
      refine lv_iadd hx hb dX11_costs_214 ?_
      obtain ⟨τ8, eτ8, hf⟩ := e_l hf
      refine g_put X hH (fp_42_26 G) tw_552 rfl rfl dX11_costs_215 (fun H locs hH => ?_)
      have hH : Hs G τ8 s H locs := by rw [eτ8]; exact hH
      obtain ⟨x9, ex9, hf⟩ := e_l hf
      refine lv_iinc (v := x9) (lv' := [(2, .int x9), (0, .ref (aG G 42)), (1, .int v1), (3, .int v3)]) hx hb dX11_costs_218 hl (k := 2) rfl (by rw [ex9]; rfl) (by decide) rfl (fun ls hl => ?_)
      refine lv_goto (tgt := 116) hx hb dX11_costs_221 (by decide) ?_
      exact hk116 _ _ _ _ _ _ hH (lv_sub hl [1, 2, 0] rfl) hf
set_option maxHeartbeats 4000000 in
set_option maxRecDepth 100000 in
theorem b_Mo_costs_42_175 {l : Launch} {G : GT} {N : Nat} {p : Program} {e : Env} {s : State} {m : MethodId} {args : Array Value} {below : List Frame} {meth : Method} {c : Code} (X : Cx G p s m args meth c cX11_costs 4 RX11 (some .int)) {r : Int32} {υ : Hp} {k116 : Hp → Int32 → Int32 → OR} (hk116 : ∀ (τ : Hp) (v1 v2 : Int32) (H : Heap) (locs : List Loc) (ls : Array Slot), Hs G τ s H locs → lv_has ls 4 [(0, .ref (aG G 42)), (1, .int v1), (2, .int v2)] → k116 τ v1 v2 = some (r, υ) → WI l G (rmG 3 65) p e s m args below meth c r υ H locs (F0 m 116 ls [])) {τ : Hp} {v1 v2 w0 : Int32} {H : Heap} {locs : List Loc} {ls : Array Slot} (hH : Hs G τ s H locs) (hl : lv_has ls 4 [(0, .ref (aG G 42)), (1, .int v1), (2, .int v2)]) (hf : f_Mo_costs_J175 N 42 k116 τ v1 v2 w0 = some (r, υ)) : WI l G (rmG 3 65) p e s m args below meth c r υ H locs (F0 m 175 ls [.int w0]) := by
  have hx := X.hx
  have hb := X.hb
  unfold f_Mo_costs_J175 at hf
  refine lv_istore_n (lv' := [(3, .int w0), (0, .ref (aG G 42)), (1, .int v1), (2, .int v2)]) hx hb dX11_costs_175 rfl hl (by decide) rfl (fun ls hl => ?_)
  refine lv_iload_n hx hb dX11_costs_176 rfl (lv_at hl 0 rfl) ?_
  refine lv_if_eq (tgt := 191) hx hb dX11_costs_177 (by decide) (fun c1 => ?_) (fun c1 => ?_)
  · have hf := e_t c1 hf
    exact b_Mo_costs_42_191 (N := N) X hk116 hH (lv_sub hl [1, 2, 3, 0] rfl) hf
  · have hf := e_f c1 hf
    refine lv_aload_n hx hb dX11_costs_180 rfl (lv_at hl 1 rfl) ?_
    refine g_get X hH (fa_42_9 G) tw_535 dX11_costs_181 ?_
    refine lv_iload_n hx hb dX11_costs_184 rfl (lv_at hl 3 rfl) ?_
    obtain ⟨g2, hf⟩ := e_g hf
    refine z_ld X hH (aa_49 G) g2 dX11_costs_185 ?_
    refine lv_if_eq (tgt := 191) hx hb dX11_costs_186 (by decide) (fun c3 => ?_) (fun c3 => ?_)
    · have hf := e_t c3 hf
      exact b_Mo_costs_42_191 (N := N) X hk116 hH (lv_sub hl [1, 2, 3, 0] rfl) hf
    · have hf := e_f c3 hf
      refine lv_iconst (v := (-1)) hx hb dX11_costs_189 (by decide) ?_
      exact r_i X hH hf dX11_costs_190
set_option maxHeartbeats 4000000 in
set_option maxRecDepth 100000 in
theorem b_Mo_costs_42_170 {l : Launch} {G : GT} {N : Nat} {p : Program} {e : Env} {s : State} {m : MethodId} {args : Array Value} {below : List Frame} {meth : Method} {c : Code} (X : Cx G p s m args meth c cX11_costs 4 RX11 (some .int)) {r : Int32} {υ : Hp} {k116 : Hp → Int32 → Int32 → OR} (hk116 : ∀ (τ : Hp) (v1 v2 : Int32) (H : Heap) (locs : List Loc) (ls : Array Slot), Hs G τ s H locs → lv_has ls 4 [(0, .ref (aG G 42)), (1, .int v1), (2, .int v2)] → k116 τ v1 v2 = some (r, υ) → WI l G (rmG 3 65) p e s m args below meth c r υ H locs (F0 m 116 ls [])) {τ : Hp} {v1 v2 : Int32} {H : Heap} {locs : List Loc} {ls : Array Slot} (hH : Hs G τ s H locs) (hl : lv_has ls 4 [(0, .ref (aG G 42)), (1, .int v1), (2, .int v2)]) (hf : f_Mo_costs_J170 N 42 k116 τ v1 v2 = some (r, υ)) : WI l G (rmG 3 65) p e s m args below meth c r υ H locs (F0 m 170 ls []) := by
  have hx := X.hx
  have hb := X.hb
  unfold f_Mo_costs_J170 at hf
  refine lv_iconst (v := 1) hx hb dX11_costs_170 (by decide) ?_
  refine lv_goto (tgt := 175) hx hb dX11_costs_171 (by decide) ?_
  exact b_Mo_costs_42_175 (N := N) X hk116 hH (lv_sub hl [0, 1, 2] rfl) hf
set_option maxHeartbeats 4000000 in
set_option maxRecDepth 100000 in
theorem b_Mo_costs_42_116b {l : Launch} {G : GT} {N : Nat} {p : Program} {e : Env} {s : State} {m : MethodId} {args : Array Value} {below : List Frame} {meth : Method} {c : Code} (X : Cx G p s m args meth c cX11_costs 4 RX11 (some .int)) {r : Int32} {υ : Hp} {k116 : Hp → Int32 → Int32 → OR} (hk116 : ∀ (τ : Hp) (v1 v2 : Int32) (H : Heap) (locs : List Loc) (ls : Array Slot), Hs G τ s H locs → lv_has ls 4 [(0, .ref (aG G 42)), (1, .int v1), (2, .int v2)] → k116 τ v1 v2 = some (r, υ) → WI l G (rmG 3 65) p e s m args below meth c r υ H locs (F0 m 116 ls [])) {τ : Hp} {v1 v2 : Int32} {H : Heap} {locs : List Loc} {ls : Array Slot} (hH : Hs G τ s H locs) (hl : lv_has ls 4 [(0, .ref (aG G 42)), (1, .int v1), (2, .int v2)]) (hf : f_Mo_costs_L116b N 42 k116 τ v1 v2 = some (r, υ)) : WI l G (rmG 3 65) p e s m args below meth c r υ H locs (F0 m 116 ls []) := by
  have hx := X.hx
  have hb := X.hb
  unfold f_Mo_costs_L116b at hf
  refine lv_iload_n hx hb dX11_costs_116 rfl (lv_at hl 2 rfl) ?_
  refine lv_sipush (v := 256) hx hb dX11_costs_117 (by decide) ?_
  refine lv_icmp_ge (tgt := 224) hx hb dX11_costs_120 (by decide) (fun c1 => ?_) (fun c1 => ?_)
  · have hf := e_t c1 hf
    refine lv_iload_n hx hb dX11_costs_224 rfl (lv_at hl 1 rfl) ?_
    refine lv_aload_n hx hb dX11_costs_225 rfl (lv_at hl 0 rfl) ?_
    refine g_get X hH (fa_42_13 G) tw_539 dX11_costs_226 ?_
    refine lv_imul hx hb dX11_costs_229 ?_
    refine lv_aload_n hx hb dX11_costs_230 rfl (lv_at hl 0 rfl) ?_
    refine g_get X hH (fa_42_26 G) tw_552 dX11_costs_231 ?_
    refine lv_aload_n hx hb dX11_costs_234 rfl (lv_at hl 0 rfl) ?_
    refine g_get X hH (fa_42_14 G) tw_540 dX11_costs_235 ?_
    refine lv_imul hx hb dX11_costs_238 ?_
    refine lv_iadd hx hb dX11_costs_239 ?_
    exact r_i X hH hf dX11_costs_240
  · have hf := e_f c1 hf
    refine lv_aload_n hx hb dX11_costs_123 rfl (lv_at hl 0 rfl) ?_
    refine lv_iload_n hx hb dX11_costs_124 rfl (lv_at hl 2 rfl) ?_
    obtain ⟨r2, τ3, hc4, hf⟩ := e_b hf
    refine c_Vi X hH (k := 42) (n := 1) (As := [.int _]) (rest := []) (c_Mo_isTried_42 l G (N := N) hc4) (by decide) rfl rfl tw_667 tw_665 tw_666 tw_776 tw_13 (by decide +kernel) ⟨by decide, by decide⟩ rfl hl.1 rfl (Nat.le_of_ble_eq_true rfl) ⟨Nat.zero_le _, Nat.zero_le _⟩ dX11_costs_125 (fun H locs hH => ?_)
    refine lv_if_ne (tgt := 134) hx hb dX11_costs_128 (by decide) (fun c5 => ?_) (fun c5 => ?_)
    · have hf := e_f c5 hf
      refine lv_aload_n hx hb dX11_costs_134 rfl (lv_at hl 0 rfl) ?_
      refine g_get X hH (fa_42_22 G) tw_548 dX11_costs_135 ?_
      refine lv_iload_n hx hb dX11_costs_138 rfl (lv_at hl 2 rfl) ?_
      refine lv_bipush (v := 32) hx hb dX11_costs_139 (by decide) ?_
      refine lv_idiv hx hb dX11_costs_141 (by decide) ?_
      obtain ⟨g6, hf⟩ := e_g hf
      refine a_ld X hH (aa_54 G) g6 dX11_costs_142 ?_
      refine lv_aload_n hx hb dX11_costs_143 rfl (lv_at hl 0 rfl) ?_
      refine g_get X hH (fa_42_22 G) tw_548 dX11_costs_144 ?_
      refine lv_iload_n hx hb dX11_costs_147 rfl (lv_at hl 2 rfl) ?_
      refine lv_iconst (v := 4) hx hb dX11_costs_148 (by decide) ?_
      refine lv_idiv hx hb dX11_costs_149 (by decide) ?_
      refine lv_bipush (v := 8) hx hb dX11_costs_150 (by decide) ?_
      refine lv_irem hx hb dX11_costs_152 (by decide) ?_
      obtain ⟨g7, hf⟩ := e_g hf
      refine a_ld X hH (aa_54 G) g7 dX11_costs_153 ?_
      refine lv_icmp_eq (tgt := 170) hx hb dX11_costs_154 (by decide) (fun c8 => ?_) (fun c8 => ?_)
      · have hf := e_t c8 hf
        exact b_Mo_costs_42_170 (N := N) X hk116 hH (lv_sub hl [0, 1, 2] rfl) hf
      · have hf := e_f c8 hf
        refine lv_aload_n hx hb dX11_costs_157 rfl (lv_at hl 0 rfl) ?_
        refine g_get X hH (fa_42_24 G) tw_550 dX11_costs_158 ?_
        refine lv_aload_n hx hb dX11_costs_161 rfl (lv_at hl 0 rfl) ?_
        refine lv_iload_n hx hb dX11_costs_162 rfl (lv_at hl 2 rfl) ?_
        obtain ⟨r9, τ10, hc11, hf⟩ := e_b hf
        refine c_Vi X hH (k := 42) (n := 1) (As := [.int _]) (rest := [.ref (aG G 56)]) (c_Mo_between_42 l G (N := N) hc11) (by decide) rfl rfl tw_670 tw_668 tw_669 tw_777 tw_13 (by decide +kernel) ⟨by decide, by decide⟩ rfl hl.1 rfl (Nat.le_of_ble_eq_true rfl) ⟨Nat.zero_le _, Nat.zero_le _⟩ dX11_costs_163 (fun H locs hH => ?_)
        obtain ⟨g12, hf⟩ := e_g hf
        refine z_ld X hH (aa_56 G) g12 dX11_costs_166 ?_
        refine lv_if_eq (tgt := 174) hx hb dX11_costs_167 (by decide) (fun c13 => ?_) (fun c13 => ?_)
        · have hf := e_t c13 hf
          refine lv_iconst (v := 0) hx hb dX11_costs_174 (by decide) ?_
          exact b_Mo_costs_42_175 (N := N) X hk116 hH (lv_sub hl [0, 1, 2] rfl) hf
        · have hf := e_f c13 hf
          exact b_Mo_costs_42_170 (N := N) X hk116 hH (lv_sub hl [0, 1, 2] rfl) hf
    · have hf := e_t c5 hf
      refine lv_goto (tgt := 218) hx hb dX11_costs_131 (by decide) ?_
      obtain ⟨x14, ex14, hf⟩ := e_l hf
      refine lv_iinc (v := x14) (lv' := [(2, .int x14), (0, .ref (aG G 42)), (1, .int v1)]) hx hb dX11_costs_218 hl (k := 2) rfl (by rw [ex14]; rfl) (by decide) rfl (fun ls hl => ?_)
      refine lv_goto (tgt := 116) hx hb dX11_costs_221 (by decide) ?_
      exact hk116 _ _ _ _ _ _ hH (lv_sub hl [1, 2, 0] rfl) hf
theorem b_Mo_costs_42_116 {l : Launch} {G : GT} {N : Nat} {p : Program} {e : Env} {s : State} {m : MethodId} {args : Array Value} {below : List Frame} {meth : Method} {c : Code} (X : Cx G p s m args meth c cX11_costs 4 RX11 (some .int)) {r : Int32} {υ : Hp} : ∀ (n : Nat) (τ : Hp) (v1 v2 : Int32) (H : Heap) (locs : List Loc) (ls : Array Slot), Hs G τ s H locs → lv_has ls 4 [(0, .ref (aG G 42)), (1, .int v1), (2, .int v2)] → f_Mo_costs_L116 N 42 n τ v1 v2 = some (r, υ) → WI l G (rmG 3 65) p e s m args below meth c r υ H locs (F0 m 116 ls []) := by
  intro n
  induction n with
  | zero => intro τ v1 v2 H locs ls hH hl hf; exact nomatch (show (none : OR) = some (r, υ) from hf)
  | succ n ih => intro τ v1 v2 H locs ls hH hl hf; exact b_Mo_costs_42_116b (N := N) X ih hH hl hf
set_option maxHeartbeats 4000000 in
set_option maxRecDepth 100000 in
theorem b_Mo_costs_42_26b {l : Launch} {G : GT} {N : Nat} {p : Program} {e : Env} {s : State} {m : MethodId} {args : Array Value} {below : List Frame} {meth : Method} {c : Code} (X : Cx G p s m args meth c cX11_costs 4 RX11 (some .int)) {r : Int32} {υ : Hp} {k26 : Hp → Int32 → Int32 → OR} (hk26 : ∀ (τ : Hp) (v1 v2 : Int32) (H : Heap) (locs : List Loc) (ls : Array Slot), Hs G τ s H locs → lv_has ls 4 [(0, .ref (aG G 42)), (1, .int v1), (2, .int v2)] → k26 τ v1 v2 = some (r, υ) → WI l G (rmG 3 65) p e s m args below meth c r υ H locs (F0 m 26 ls [])) {τ : Hp} {v1 v2 : Int32} {H : Heap} {locs : List Loc} {ls : Array Slot} (hH : Hs G τ s H locs) (hl : lv_has ls 4 [(0, .ref (aG G 42)), (1, .int v1), (2, .int v2)]) (hf : f_Mo_costs_L26b N 42 k26 τ v1 v2 = some (r, υ)) : WI l G (rmG 3 65) p e s m args below meth c r υ H locs (F0 m 26 ls []) := by
  have hx := X.hx
  have hb := X.hb
  unfold f_Mo_costs_L26b at hf
  refine lv_iload_n hx hb dX11_costs_26 rfl (lv_at hl 2 rfl) ?_
  refine lv_sipush (v := 256) hx hb dX11_costs_27 (by decide) ?_
  refine lv_icmp_ge (tgt := 109) hx hb dX11_costs_30 (by decide) (fun c1 => ?_) (fun c1 => ?_)
  · have hf := e_t c1 hf
    refine lv_aload_n hx hb dX11_costs_109 rfl (lv_at hl 0 rfl) ?_
    refine lv_iconst (v := 0) hx hb dX11_costs_110 (by decide) ?_
    obtain ⟨τ2, eτ2, hf⟩ := e_l hf
    refine g_put X hH (fp_42_26 G) tw_552 rfl rfl dX11_costs_111 (fun H locs hH => ?_)
    have hH : Hs G τ2 s H locs := by rw [eτ2]; exact hH
    refine lv_iconst (v := 0) hx hb dX11_costs_114 (by decide) ?_
    refine lv_istore_n (lv' := [(2, .int 0), (0, .ref (aG G 42)), (1, .int v1)]) hx hb dX11_costs_115 rfl hl (by decide) rfl (fun ls hl => ?_)
    exact b_Mo_costs_42_116 (N := N) X _ _ _ _ _ _ _ hH (lv_sub hl [1, 2, 0] rfl) hf
  · have hf := e_f c1 hf
    refine lv_aload_n hx hb dX11_costs_33 rfl (lv_at hl 0 rfl) ?_
    refine lv_iload_n hx hb dX11_costs_34 rfl (lv_at hl 2 rfl) ?_
    obtain ⟨r3, τ4, hc5, hf⟩ := e_b hf
    refine c_Vi X hH (k := 42) (n := 1) (As := [.int _]) (rest := []) (c_Mo_isTried_42 l G (N := N) hc5) (by decide) rfl rfl tw_667 tw_665 tw_666 tw_776 tw_13 (by decide +kernel) ⟨by decide, by decide⟩ rfl hl.1 rfl (Nat.le_of_ble_eq_true rfl) ⟨Nat.zero_le _, Nat.zero_le _⟩ dX11_costs_35 (fun H locs hH => ?_)
    refine lv_if_eq (tgt := 103) hx hb dX11_costs_38 (by decide) (fun c6 => ?_) (fun c6 => ?_)
    · have hf := e_t c6 hf
      obtain ⟨x7, ex7, hf⟩ := e_l hf
      refine lv_iinc (v := x7) (lv' := [(2, .int x7), (0, .ref (aG G 42)), (1, .int v1)]) hx hb dX11_costs_103 hl (k := 2) rfl (by rw [ex7]; rfl) (by decide) rfl (fun ls hl => ?_)
      refine lv_goto (tgt := 26) hx hb dX11_costs_106 (by decide) ?_
      exact hk26 _ _ _ _ _ _ hH (lv_sub hl [1, 2, 0] rfl) hf
    · have hf := e_f c6 hf
      refine lv_aload_n hx hb dX11_costs_41 rfl (lv_at hl 0 rfl) ?_
      refine g_get X hH (fa_42_15 G) tw_541 dX11_costs_42 ?_
      refine lv_iload_n hx hb dX11_costs_45 rfl (lv_at hl 2 rfl) ?_
      obtain ⟨g8, hf⟩ := e_g hf
      refine z_ld X hH (aa_50 G) g8 dX11_costs_46 ?_
      refine lv_if_eq (tgt := 103) hx hb dX11_costs_47 (by decide) (fun c9 => ?_) (fun c9 => ?_)
      · have hf := e_t c9 hf
        obtain ⟨x10, ex10, hf⟩ := e_l hf
        refine lv_iinc (v := x10) (lv' := [(2, .int x10), (0, .ref (aG G 42)), (1, .int v1)]) hx hb dX11_costs_103 hl (k := 2) rfl (by rw [ex10]; rfl) (by decide) rfl (fun ls hl => ?_)
        refine lv_goto (tgt := 26) hx hb dX11_costs_106 (by decide) ?_
        exact hk26 _ _ _ _ _ _ hH (lv_sub hl [1, 2, 0] rfl) hf
      · have hf := e_f c9 hf
        refine lv_aload_n hx hb dX11_costs_50 rfl (lv_at hl 0 rfl) ?_
        refine g_get X hH (fa_42_22 G) tw_548 dX11_costs_51 ?_
        refine lv_iload_n hx hb dX11_costs_54 rfl (lv_at hl 2 rfl) ?_
        refine lv_bipush (v := 32) hx hb dX11_costs_55 (by decide) ?_
        refine lv_idiv hx hb dX11_costs_57 (by decide) ?_
        obtain ⟨g11, hf⟩ := e_g hf
        refine a_ld X hH (aa_54 G) g11 dX11_costs_58 ?_
        refine lv_aload_n hx hb dX11_costs_59 rfl (lv_at hl 0 rfl) ?_
        refine g_get X hH (fa_42_22 G) tw_548 dX11_costs_60 ?_
        refine lv_iload_n hx hb dX11_costs_63 rfl (lv_at hl 2 rfl) ?_
        refine lv_iconst (v := 4) hx hb dX11_costs_64 (by decide) ?_
        refine lv_idiv hx hb dX11_costs_65 (by decide) ?_
        refine lv_bipush (v := 8) hx hb dX11_costs_66 (by decide) ?_
        refine lv_irem hx hb dX11_costs_68 (by decide) ?_
        obtain ⟨g12, hf⟩ := e_g hf
        refine a_ld X hH (aa_54 G) g12 dX11_costs_69 ?_
        refine lv_icmp_eq (tgt := 103) hx hb dX11_costs_70 (by decide) (fun c13 => ?_) (fun c13 => ?_)
        · have hf := e_t c13 hf
          obtain ⟨x14, ex14, hf⟩ := e_l hf
          refine lv_iinc (v := x14) (lv' := [(2, .int x14), (0, .ref (aG G 42)), (1, .int v1)]) hx hb dX11_costs_103 hl (k := 2) rfl (by rw [ex14]; rfl) (by decide) rfl (fun ls hl => ?_)
          refine lv_goto (tgt := 26) hx hb dX11_costs_106 (by decide) ?_
          exact hk26 _ _ _ _ _ _ hH (lv_sub hl [1, 2, 0] rfl) hf
        · have hf := e_f c13 hf
          refine lv_aload_n hx hb dX11_costs_73 rfl (lv_at hl 0 rfl) ?_
          refine g_get X hH (fa_42_24 G) tw_550 dX11_costs_74 ?_
          refine lv_aload_n hx hb dX11_costs_77 rfl (lv_at hl 0 rfl) ?_
          refine lv_iload_n hx hb dX11_costs_78 rfl (lv_at hl 2 rfl) ?_
          obtain ⟨r15, τ16, hc17, hf⟩ := e_b hf
          refine c_Vi X hH (k := 42) (n := 1) (As := [.int _]) (rest := [.ref (aG G 56)]) (c_Mo_between_42 l G (N := N) hc17) (by decide) rfl rfl tw_670 tw_668 tw_669 tw_777 tw_13 (by decide +kernel) ⟨by decide, by decide⟩ rfl hl.1 rfl (Nat.le_of_ble_eq_true rfl) ⟨Nat.zero_le _, Nat.zero_le _⟩ dX11_costs_79 (fun H locs hH => ?_)
          obtain ⟨g18, hf⟩ := e_g hf
          refine z_ld X hH (aa_56 G) g18 dX11_costs_82 ?_
          refine lv_if_eq (tgt := 89) hx hb dX11_costs_83 (by decide) (fun c19 => ?_) (fun c19 => ?_)
          · have hf := e_t c19 hf
            refine lv_aload_n hx hb dX11_costs_89 rfl (lv_at hl 0 rfl) ?_
            refine g_get X hH (fa_42_24 G) tw_550 dX11_costs_90 ?_
            refine lv_aload_n hx hb dX11_costs_93 rfl (lv_at hl 0 rfl) ?_
            refine lv_iload_n hx hb dX11_costs_94 rfl (lv_at hl 2 rfl) ?_
            obtain ⟨r20, τ21, hc22, hf⟩ := e_b hf
            refine c_Vi X hH (k := 42) (n := 1) (As := [.int _]) (rest := [.ref (aG G 56)]) (c_Mo_between_42 l G (N := N) hc22) (by decide) rfl rfl tw_670 tw_668 tw_669 tw_777 tw_13 (by decide +kernel) ⟨by decide, by decide⟩ rfl hl.1 rfl (Nat.le_of_ble_eq_true rfl) ⟨Nat.zero_le _, Nat.zero_le _⟩ dX11_costs_95 (fun H locs hH => ?_)
            refine lv_iconst (v := 1) hx hb dX11_costs_98 (by decide) ?_
            obtain ⟨g23, hf⟩ := e_g hf
            obtain ⟨τ24, eτ24, hf⟩ := e_l hf
            refine z_st X hH (aa_56 G) g23 dX11_costs_99 (fun H locs hH => ?_)
            have hH : Hs G τ24 s H locs := by rw [eτ24]; exact hH
            obtain ⟨x25, ex25, hf⟩ := e_l hf
            refine lv_iinc (v := x25) (lv' := [(1, .int x25), (0, .ref (aG G 42)), (2, .int v2)]) hx hb dX11_costs_100 hl (k := 1) rfl (by rw [ex25]; rfl) (by decide) rfl (fun ls hl => ?_)
            obtain ⟨x26, ex26, hf⟩ := e_l hf
            refine lv_iinc (v := x26) (lv' := [(2, .int x26), (1, .int x25), (0, .ref (aG G 42))]) hx hb dX11_costs_103 hl (k := 2) rfl (by rw [ex26]; rfl) (by decide) rfl (fun ls hl => ?_)
            refine lv_goto (tgt := 26) hx hb dX11_costs_106 (by decide) ?_
            exact hk26 _ _ _ _ _ _ hH (lv_sub hl [2, 1, 0] rfl) hf
          · have hf := e_f c19 hf
            refine lv_goto (tgt := 103) hx hb dX11_costs_86 (by decide) ?_
            obtain ⟨x27, ex27, hf⟩ := e_l hf
            refine lv_iinc (v := x27) (lv' := [(2, .int x27), (0, .ref (aG G 42)), (1, .int v1)]) hx hb dX11_costs_103 hl (k := 2) rfl (by rw [ex27]; rfl) (by decide) rfl (fun ls hl => ?_)
            refine lv_goto (tgt := 26) hx hb dX11_costs_106 (by decide) ?_
            exact hk26 _ _ _ _ _ _ hH (lv_sub hl [1, 2, 0] rfl) hf
theorem b_Mo_costs_42_26 {l : Launch} {G : GT} {N : Nat} {p : Program} {e : Env} {s : State} {m : MethodId} {args : Array Value} {below : List Frame} {meth : Method} {c : Code} (X : Cx G p s m args meth c cX11_costs 4 RX11 (some .int)) {r : Int32} {υ : Hp} : ∀ (n : Nat) (τ : Hp) (v1 v2 : Int32) (H : Heap) (locs : List Loc) (ls : Array Slot), Hs G τ s H locs → lv_has ls 4 [(0, .ref (aG G 42)), (1, .int v1), (2, .int v2)] → f_Mo_costs_L26 N 42 n τ v1 v2 = some (r, υ) → WI l G (rmG 3 65) p e s m args below meth c r υ H locs (F0 m 26 ls []) := by
  intro n
  induction n with
  | zero => intro τ v1 v2 H locs ls hH hl hf; exact nomatch (show (none : OR) = some (r, υ) from hf)
  | succ n ih => intro τ v1 v2 H locs ls hH hl hf; exact b_Mo_costs_42_26b (N := N) X ih hH hl hf
set_option maxHeartbeats 4000000 in
set_option maxRecDepth 100000 in
theorem b_Mo_costs_42_2b {l : Launch} {G : GT} {N : Nat} {p : Program} {e : Env} {s : State} {m : MethodId} {args : Array Value} {below : List Frame} {meth : Method} {c : Code} (X : Cx G p s m args meth c cX11_costs 4 RX11 (some .int)) {r : Int32} {υ : Hp} {k2 : Hp → Int32 → OR} (hk2 : ∀ (τ : Hp) (v1 : Int32) (H : Heap) (locs : List Loc) (ls : Array Slot), Hs G τ s H locs → lv_has ls 4 [(0, .ref (aG G 42)), (1, .int v1)] → k2 τ v1 = some (r, υ) → WI l G (rmG 3 65) p e s m args below meth c r υ H locs (F0 m 2 ls [])) {τ : Hp} {v1 : Int32} {H : Heap} {locs : List Loc} {ls : Array Slot} (hH : Hs G τ s H locs) (hl : lv_has ls 4 [(0, .ref (aG G 42)), (1, .int v1)]) (hf : f_Mo_costs_L2b N 42 k2 τ v1 = some (r, υ)) : WI l G (rmG 3 65) p e s m args below meth c r υ H locs (F0 m 2 ls []) := by
  have hx := X.hx
  have hb := X.hb
  unfold f_Mo_costs_L2b at hf
  refine lv_iload_n hx hb dX11_costs_2 rfl (lv_at hl 1 rfl) ?_
  refine lv_sipush (v := 256) hx hb dX11_costs_3 (by decide) ?_
  refine lv_icmp_ge (tgt := 22) hx hb dX11_costs_6 (by decide) (fun c1 => ?_) (fun c1 => ?_)
  · have hf := e_t c1 hf
    refine lv_iconst (v := 0) hx hb dX11_costs_22 (by decide) ?_
    refine lv_istore_n (lv' := [(1, .int 0), (0, .ref (aG G 42))]) hx hb dX11_costs_23 rfl hl (by decide) rfl (fun ls hl => ?_)
    refine lv_iconst (v := 0) hx hb dX11_costs_24 (by decide) ?_
    refine lv_istore_n (lv' := [(2, .int 0), (1, .int 0), (0, .ref (aG G 42))]) hx hb dX11_costs_25 rfl hl (by decide) rfl (fun ls hl => ?_)
    exact b_Mo_costs_42_26 (N := N) X _ _ _ _ _ _ _ hH (lv_sub hl [2, 1, 0] rfl) hf
  · have hf := e_f c1 hf
    refine lv_aload_n hx hb dX11_costs_9 rfl (lv_at hl 0 rfl) ?_
    refine g_get X hH (fa_42_24 G) tw_550 dX11_costs_10 ?_
    refine lv_iload_n hx hb dX11_costs_13 rfl (lv_at hl 1 rfl) ?_
    refine lv_iconst (v := 0) hx hb dX11_costs_14 (by decide) ?_
    obtain ⟨g2, hf⟩ := e_g hf
    obtain ⟨τ3, eτ3, hf⟩ := e_l hf
    refine z_st X hH (aa_56 G) g2 dX11_costs_15 (fun H locs hH => ?_)
    have hH : Hs G τ3 s H locs := by rw [eτ3]; exact hH
    obtain ⟨x4, ex4, hf⟩ := e_l hf
    refine lv_iinc (v := x4) (lv' := [(1, .int x4), (0, .ref (aG G 42))]) hx hb dX11_costs_16 hl (k := 1) rfl (by rw [ex4]; rfl) (by decide) rfl (fun ls hl => ?_)
    refine lv_goto (tgt := 2) hx hb dX11_costs_19 (by decide) ?_
    exact hk2 _ _ _ _ _ hH (lv_sub hl [1, 0] rfl) hf
theorem b_Mo_costs_42_2 {l : Launch} {G : GT} {N : Nat} {p : Program} {e : Env} {s : State} {m : MethodId} {args : Array Value} {below : List Frame} {meth : Method} {c : Code} (X : Cx G p s m args meth c cX11_costs 4 RX11 (some .int)) {r : Int32} {υ : Hp} : ∀ (n : Nat) (τ : Hp) (v1 : Int32) (H : Heap) (locs : List Loc) (ls : Array Slot), Hs G τ s H locs → lv_has ls 4 [(0, .ref (aG G 42)), (1, .int v1)] → f_Mo_costs_L2 N 42 n τ v1 = some (r, υ) → WI l G (rmG 3 65) p e s m args below meth c r υ H locs (F0 m 2 ls []) := by
  intro n
  induction n with
  | zero => intro τ v1 H locs ls hH hl hf; exact nomatch (show (none : OR) = some (r, υ) from hf)
  | succ n ih => intro τ v1 H locs ls hH hl hf; exact b_Mo_costs_42_2b (N := N) X ih hH hl hf
set_option maxHeartbeats 4000000 in
set_option maxRecDepth 100000 in
theorem b_Mo_costs_42_0 {l : Launch} {G : GT} {N : Nat} {p : Program} {e : Env} {s : State} {m : MethodId} {args : Array Value} {below : List Frame} {meth : Method} {c : Code} (X : Cx G p s m args meth c cX11_costs 4 RX11 (some .int)) {r : Int32} {υ : Hp} {τ : Hp} {H : Heap} {locs : List Loc} {ls : Array Slot} (hH : Hs G τ s H locs) (hl : lv_has ls 4 [(0, .ref (aG G 42))]) (hf : f_Mo_costs N 42 τ = some (r, υ)) : WI l G (rmG 3 65) p e s m args below meth c r υ H locs (F0 m 0 ls []) := by
  have hx := X.hx
  have hb := X.hb
  unfold f_Mo_costs at hf
  refine lv_iconst (v := 0) hx hb dX11_costs_0 (by decide) ?_
  refine lv_istore_n (lv' := [(1, .int 0), (0, .ref (aG G 42))]) hx hb dX11_costs_1 rfl hl (by decide) rfl (fun ls hl => ?_)
  exact b_Mo_costs_42_2 (N := N) X _ _ _ _ _ _ hH (lv_sub hl [1, 0] rfl) hf
theorem c_Mo_costs_42 (l : Launch) (G : GT) {N : Nat} {τ υ : Hp} {r : Int32} (hf : f_Mo_costs N 42 τ = some (r, υ)) : MI l G yX11_costs cX11_costs 4 (some .int) 3 65 [.ref (aG G 42)] τ r υ := mk_I (by decide) (Nat.le_of_ble_eq_true rfl) (fun p e s m args below meth c X hH ls hl => b_Mo_costs_42_0 (N := N) X hH (lv_sub hl [0] rfl) hf)
