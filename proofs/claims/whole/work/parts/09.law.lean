/-! THE CLAIM OUT OF ONE WALK OF THE LAW'S BODY. Your part is whole_start (and what it stands on); all else here is the same for every law, but numbers. -/
def R_law : String := "WallPlannerLaw"
def lw_P (b : Addr) (xs : List Int32) (args : Array Value) (s : State) : Prop := args = #[.ref b] ∧ s.IntsAt b xs ∧ xs.length ≤ 3072 ∧ (Jvm.Cond.and given_1 narrow_1).before args s = true
def lw_Q (_ : Array Value) (s : State) (o : Outcome) (t : State) : Prop := o = .returned (some (.int 1)) ∧ Framed s o t [] 66 7035
def lw_Z (below : List Frame) (a : Array Value) (s : State) : State → Prop := fun t => ∃ o, t.status = .running ∧ Ended t below o ∧ lw_Q a s o t
/-- the law's own end, with 1 on the stack, nothing written that was there before, its room as the claim has it -/
theorem lw_ret {p : Program} {l : Launch} {e : Env} {s : State} {m : MethodId} {below : List Frame} {meth : Method} {c : Code} {b : Nat} (hx : p.tables.exec = Jvm.exec) (hb : c.code = code) (hr : meth.sig.returnType = ret) (hlocks : meth.locks = false) {pc : Nat} {H : Heap} {ls : Array Slot} (hdg : decode code pc = .ok (.ireturn, 1)) : W p l e room_1 s m #[Value.ref b] below meth c H [] 66 7035 (lw_Z below #[Value.ref b] s) (F0 m pc ls [.int 1]) := by
  intro T hT X
  obtain ⟨fs, hret, hrun, hended, hW, hframe⟩ := X.leave (v := some (.int 1)) (hlocks := hlocks) (fun h => by rw [hr] at h; cases h)
  have hmeth' : T.vm.method? m = some meth := X.method'
  refine ⟨T.setFrames fs, ?_, .returned (some (.int 1)), hrun, hended, rfl, ⟨_, rfl⟩, hW, hframe⟩
  jvm_step X.here [X.here.top, hx, hb, hdg, hmeth', hr, ret, narrow_b1]
  (try refine ⟨rfl, ?_⟩); (try refine ⟨rfl, ?_⟩)
  first | (intro acts; rw [hret _ acts rfl rfl rfl]) | rw [hret _ _ rfl rfl rfl]
  exact Steps.refl _
/-- what holds at the law's entry: the machine, the code, the tables' words (any of lw_tbl by 'hts w (by decide +kernel)'), the script of L ints xs at the cell b, what the Statement gives of the start (any of its parts by flat_of_before) -/
def lw_At (p : Program) (s : State) (m : MethodId) (meth : Method) (c : Code) (b L : Nat) (xs : Nat → Int32) : Prop :=
  p.tables.exec = Jvm.exec ∧ c.code = code ∧ meth.sig.returnType = ret ∧ c.maxLocals = 4 ∧ s.vm.findClass R_law = some m.cls ∧ (∀ w ∈ lw_tbl, w.before #[Value.ref b] s = true) ∧ va_X b L xs s s.heap ∧ b < s.heap.size ∧ meth.locks = false ∧ (Jvm.Cond.and given_1 narrow_1).before #[Value.ref b] s = true
def agree (I : Hp → Prop) (f g : Hp → OR) : Prop := ∀ τ, I τ → ∃ (r : Int32) (τ1 τ2 : Hp), f τ = some (r, τ1) ∧ g τ1 = some (r, τ2) ∧ I τ2
def op_host (N : Nat) (I : Hp → Prop) : Prop := ∀ a0 : Int32, agree I (fun τ => f_WP_host N 0 τ a0) (fun τ => f_Mo_host N 42 τ a0)
def op_talk (N : Nat) (I : Hp → Prop) : Prop := ∀ a0 a1 a2 a3 a4 : Int32, agree I (fun τ => f_WP_talk N 0 τ a0 a1 a2 a3 a4) (fun τ => f_Mo_talk N 42 τ a0 a1 a2 a3 a4)
def op_must (N : Nat) (I : Hp → Prop) : Prop := ∀ a0 a1 a2 a3 : Int32, (a3 = 0 ∨ a3 = 1) → agree I (fun τ => f_WP_must N 0 τ a0 a1 a2 a3) (fun τ => f_Mo_must N 42 τ a0 a1 a2 a3)
def op_bar (N : Nat) (I : Hp → Prop) : Prop := ∀ a0 a1 a2 a3 : Int32, (a3 = 0 ∨ a3 = 1) → agree I (fun τ => f_WP_bar N 0 τ a0 a1 a2 a3) (fun τ => f_Mo_bar N 42 τ a0 a1 a2 a3)
def op_law (N : Nat) (I : Hp → Prop) : Prop := ∀ a0 a1 a2 : Int32, (a2 = 0 ∨ a2 = 1) → agree I (fun τ => f_WP_law N 0 τ a0 a1 a2) (fun τ => f_Mo_law N 42 τ a0 a1 a2)
def op_prices (N : Nat) (I : Hp → Prop) : Prop := ∀ a0 a1 : Int32, agree I (fun τ => f_WP_prices N 0 τ a0 a1) (fun τ => f_Mo_prices N 42 τ a0 a1)
def op_weight (N : Nat) (I : Hp → Prop) : Prop := ∀ a0 a1 a2 a3 : Int32, agree I (fun τ => f_WP_weight N 0 τ a0 a1 a2 a3) (fun τ => f_Mo_weight N 42 τ a0 a1 a2 a3)
def op_needed (N : Nat) (I : Hp → Prop) : Prop := ∀ a0 a1 a2 a3 : Int32, agree I (fun τ => f_WP_needed N 0 τ a0 a1 a2 a3) (fun τ => f_Mo_needed N 42 τ a0 a1 a2 a3)
def op_plan (N : Nat) (I : Hp → Prop) : Prop := ∀ a0 : Int32, agree I (fun τ => f_WP_plan N 0 τ a0) (fun τ => f_Mo_plan N 42 τ a0)
def op_room (N : Nat) (I : Hp → Prop) : Prop := ∀ a0 : Int32, agree I (fun τ => f_WP_room N 0 τ a0) (fun τ => f_Mo_room N 42 τ a0)
def op_rule (N : Nat) (I : Hp → Prop) : Prop := ∀ a0 a1 : Int32, agree I (fun τ => f_WP_rule N 0 τ a0 a1) (fun τ => f_Mo_rule N 42 τ a0 a1)
def op_lets (N : Nat) (I : Hp → Prop) : Prop := ∀ a0 a1 a2 : Int32, agree I (fun τ => f_WP_lets N 0 τ a0 a1 a2) (fun τ => f_Mo_lets N 42 τ a0 a1 a2)
def op_reach (N : Nat) (I : Hp → Prop) : Prop := ∀ a0 : Int32, agree I (fun τ => f_WP_reach N 0 τ a0) (fun τ => f_Mo_reach N 42 τ a0)
def op_spread (N : Nat) (I : Hp → Prop) : Prop := ∀ a0 : Int32, agree I (fun τ => f_WP_spread N 0 τ a0) (fun τ => f_Mo_spread N 42 τ a0)
def op_shut (N : Nat) (I : Hp → Prop) : Prop := ∀ a0 : Int32, agree I (fun τ => f_WP_shut N 0 τ a0) (fun τ => f_Mo_shut N 42 τ a0)
def op_shutting (N : Nat) (I : Hp → Prop) : Prop := ∀ a0 : Int32, agree I (fun τ => f_WP_shutting N 0 τ a0) (fun τ => f_Mo_shutting N 42 τ a0)
def op_odd (N : Nat) (I : Hp → Prop) : Prop := ∀ a0 : Int32, agree I (fun τ => f_WP_odd N 0 τ a0) (fun τ => f_Mo_odd N 42 τ a0)
def op_oddTalk (N : Nat) (I : Hp → Prop) : Prop := ∀ a0 a1 : Int32, agree I (fun τ => f_WP_oddTalk N 0 τ a0 a1) (fun τ => f_Mo_oddTalk N 42 τ a0 a1)
def op_place (N : Nat) (I : Hp → Prop) : Prop := ∀ a0 a1 : Int32, agree I (fun τ => f_WP_place N 0 τ a0 a1) (fun τ => f_Mo_place N 42 τ a0 a1)
def op_count (N : Nat) (I : Hp → Prop) : Prop := ∀ a0 : Int32, agree I (fun τ => f_WP_count N 0 τ a0) (fun τ => f_Mo_count N 42 τ a0)
def Ops (N : Nat) (I : Hp → Prop) : Prop := op_host N I ∧ op_talk N I ∧ op_must N I ∧ op_bar N I ∧ op_law N I ∧ op_prices N I ∧ op_weight N I ∧ op_needed N I ∧ op_plan N I ∧ op_room N I ∧ op_rule N I ∧ op_lets N I ∧ op_reach N I ∧ op_spread N I ∧ op_shut N I ∧ op_shutting N I ∧ op_odd N I ∧ op_oddTalk N I ∧ op_place N I ∧ op_count N I
def s0 (g0 g1 g2 : Nat → Int32) : Hp := fun k => ([(fun j => ([0, 0, 0, 0, 0, 0, 0, 0, 0] : List Int32).getD j 0), (fun j => ([0, 0, 0, 0] : List Int32).getD j 0), (fun _ => 0), (fun _ => 0), (fun _ => 0), (fun j => ([7, 1, 0, 5, 1] : List Int32).getD j 0), (fun j => ([0, 0, 0, 0] : List Int32).getD j 0), (fun _ => 0), (fun _ => 0), (fun _ => 0), (fun j => ([0, 0, 0, 0, 0, 0] : List Int32).getD j 0), (fun j => ([0, 0, 0, 0, 0] : List Int32).getD j 0), g0, (fun _ => 0), (fun j => ([0, 0] : List Int32).getD j 0), (fun _ => 0), (fun _ => 0), (fun _ => 0), (fun j => ([0, 0] : List Int32).getD j 0), (fun _ => 0), (fun _ => 0), (fun j => ([0, 0, 0, 0, 0] : List Int32).getD j 0), (fun j => ([0, 0, 0, 0, 0] : List Int32).getD j 0), g1, (fun _ => 0), (fun _ => 0), (fun _ => 0), (fun j => ([0, 0, 0] : List Int32).getD j 0), (fun _ => 0), (fun _ => 0), (fun j => ([0, 0, 0, 0, 0, 0, 0, 0] : List Int32).getD j 0), (fun j => ([0, 0, 0] : List Int32).getD j 0), (fun _ => 0), (fun _ => 0), (fun _ => 0), (fun _ => 0), (fun _ => 0), (fun _ => 0), (fun _ => 0), (fun j => ([0, 0, 0] : List Int32).getD j 0), (fun _ => 0), (fun _ => 0), (fun j => ([0, 0, 0, 0, 0, 0, 0, 0, 0, 0, 7, 1, 0, 5, 1, 0, 0, 0, 0, 0, 0, 0, 0, 0, 0, 0, 0, 0, 0, 0, 0, 0, 0, 0, 0, 0, 0, 0, 0] : List Int32).getD j 0), (fun _ => 0), g2, (fun _ => 0), (fun _ => 0), (fun _ => 0), (fun _ => 0), (fun _ => 0), (fun _ => 0), (fun _ => 0), (fun _ => 0), (fun _ => 0), (fun _ => 0), (fun _ => 0), (fun _ => 0), (fun _ => 0), (fun _ => 0), (fun _ => 0), (fun _ => 0), (fun _ => 0), (fun _ => 0), (fun _ => 0), (fun _ => 0), (fun _ => 0)] : List (Nat → Int32)).getD k (fun _ => 0)
theorem fa_ltI (a b : Int32) : a < b ↔ a.toInt < b.toInt := Int32.lt_iff_toInt_lt
theorem lx_in {i L j : Nat} (hj : j < 6) (hi : i + 6 ≤ L) (hL : L ≤ 3072) : vp_in (nI i + nI j) L := by
  rw [nI_add]; exact vp_in_nI (by omega) (by omega)
theorem lx_and (x : Int32) : x &&& 31 = nI (x.toBitVec.toNat % 32) := pk_and x 5 rfl
set_option maxHeartbeats 4000000 in
set_option maxRecDepth 100000 in
theorem lc_host {l : Launch} {G : GT} {N : Nat} {I : Hp → Prop} {p : Program} {e : Env} {s : State} {m : MethodId} {below : List Frame} {meth : Method} {c : Code} {b L : Nat} {xs : Nat → Int32} (hO : Ops N I) (X : Cx G p s m #[Value.ref b] meth c cL_law 4 RL (some .boolean)) (hZ : zG G = s.heap.size) (hX : va_X b L xs s s.heap) (hbl : b < s.heap.size) (hL : L ≤ 3072) {i : Nat} (hi : i + 6 ≤ L) {τ : Hp} {H : Heap} {locs : List Loc} {ls : Array Slot} (hI : I τ) (hH : Hs G τ s H locs) (hl : lv_has ls 4 [(0, .ref b), (1, .ref (aG G 0)), (2, .ref (aG G 42)), (3, .int (nI i))]) (hk : ∀ (τ : Hp) (H : Heap) (locs : List Loc) (ls : Array Slot), I τ → Hs G τ s H locs → lv_has ls 4 [(0, .ref b), (1, .ref (aG G 0)), (2, .ref (aG G 42)), (3, .int (nI i))] → W p l e room_1 s m #[Value.ref b] below meth c H locs 66 7035 (lw_Z below #[Value.ref b] s) (F0 m 876 ls [])) : W p l e room_1 s m #[Value.ref b] below meth c H locs 66 7035 (lw_Z below #[Value.ref b] s) (F0 m 128 ls []) := by
  have hx := X.hx
  have hb := X.hb
  have hbA : ¬ Fr G b := by show ¬ zG G ≤ b; rw [hZ]; omega
  have hi1 : vp_in (nI i + 1) L := lx_in (j := 1) (by decide) hi hL
  have hi2 : vp_in (nI i + 2) L := lx_in (j := 2) (by decide) hi hL
  have hi3 : vp_in (nI i + 3) L := lx_in (j := 3) (by decide) hi hL
  have hi4 : vp_in (nI i + 4) L := lx_in (j := 4) (by decide) hi hL
  have hi5 : vp_in (nI i + 5) L := lx_in (j := 5) (by decide) hi hL
  obtain ⟨r, τ1, τ2, h1, h2, hI2⟩ := hO.1 (xs (Int32.toNatClampNeg (nI i + 1)))  τ hI
  refine lv_aload_n hx hb dL_law_128 rfl (lv_at hl 1 rfl) ?_
  refine lv_aload_n hx hb dL_law_129 rfl (lv_at hl 0 rfl) ?_
  refine lv_iload_n hx hb dL_law_130 rfl (lv_at hl 3 rfl) ?_
  refine lv_iconst (v := 1) hx hb dL_law_131 (by decide) ?_
  refine lv_iadd hx hb dL_law_132 ?_
  refine va_sld hx hb hX hbl hbA hH.2 hi1 dL_law_133 ?_
  refine c_Vi X hH (k := 0) (n := 1) (As := [.int _]) (rest := []) (c_WP_host_0 l G (N := N) h1) (by decide) rfl rfl tw_195 tw_192 tw_193 tw_194 tw_1 (by decide +kernel) ⟨by decide, by decide⟩ rfl hl.1 rfl (Nat.le_of_ble_eq_true rfl) ⟨by decide, by decide⟩ dL_law_134 (fun H locs hH => ?_)
  refine lv_aload_n hx hb dL_law_137 rfl (lv_at hl 2 rfl) ?_
  refine lv_aload_n hx hb dL_law_138 rfl (lv_at hl 0 rfl) ?_
  refine lv_iload_n hx hb dL_law_139 rfl (lv_at hl 3 rfl) ?_
  refine lv_iconst (v := 1) hx hb dL_law_140 (by decide) ?_
  refine lv_iadd hx hb dL_law_141 ?_
  refine va_sld hx hb hX hbl hbA hH.2 hi1 dL_law_142 ?_
  refine c_Vi X hH (k := 42) (n := 1) (As := [.int _]) (rest := [.int _]) (c_Mo_host_42 l G (N := N) h2) (by decide) rfl rfl tw_608 tw_605 tw_606 tw_607 tw_13 (by decide +kernel) ⟨by decide, by decide⟩ rfl hl.1 rfl (Nat.le_of_ble_eq_true rfl) ⟨by decide, by decide⟩ dL_law_143 (fun H locs hH => ?_)
  refine lv_icmp_eq (tgt := 876) hx hb dL_law_146 (by decide) (fun c1 => ?_) (fun c1 => ?_)
  · exact hk τ2 _ _ _ hI2 hH hl
  · exact absurd rfl c1
set_option maxHeartbeats 4000000 in
set_option maxRecDepth 100000 in
theorem lc_talk {l : Launch} {G : GT} {N : Nat} {I : Hp → Prop} {p : Program} {e : Env} {s : State} {m : MethodId} {below : List Frame} {meth : Method} {c : Code} {b L : Nat} {xs : Nat → Int32} (hO : Ops N I) (X : Cx G p s m #[Value.ref b] meth c cL_law 4 RL (some .boolean)) (hZ : zG G = s.heap.size) (hX : va_X b L xs s s.heap) (hbl : b < s.heap.size) (hL : L ≤ 3072) {i : Nat} (hi : i + 6 ≤ L) {τ : Hp} {H : Heap} {locs : List Loc} {ls : Array Slot} (hI : I τ) (hH : Hs G τ s H locs) (hl : lv_has ls 4 [(0, .ref b), (1, .ref (aG G 0)), (2, .ref (aG G 42)), (3, .int (nI i))]) (hk : ∀ (τ : Hp) (H : Heap) (locs : List Loc) (ls : Array Slot), I τ → Hs G τ s H locs → lv_has ls 4 [(0, .ref b), (1, .ref (aG G 0)), (2, .ref (aG G 42)), (3, .int (nI i))] → W p l e room_1 s m #[Value.ref b] below meth c H locs 66 7035 (lw_Z below #[Value.ref b] s) (F0 m 876 ls [])) : W p l e room_1 s m #[Value.ref b] below meth c H locs 66 7035 (lw_Z below #[Value.ref b] s) (F0 m 151 ls []) := by
  have hx := X.hx
  have hb := X.hb
  have hbA : ¬ Fr G b := by show ¬ zG G ≤ b; rw [hZ]; omega
  have hi1 : vp_in (nI i + 1) L := lx_in (j := 1) (by decide) hi hL
  have hi2 : vp_in (nI i + 2) L := lx_in (j := 2) (by decide) hi hL
  have hi3 : vp_in (nI i + 3) L := lx_in (j := 3) (by decide) hi hL
  have hi4 : vp_in (nI i + 4) L := lx_in (j := 4) (by decide) hi hL
  have hi5 : vp_in (nI i + 5) L := lx_in (j := 5) (by decide) hi hL
  obtain ⟨r, τ1, τ2, h1, h2, hI2⟩ := hO.2.1 (xs (Int32.toNatClampNeg (nI i + 1))) (xs (Int32.toNatClampNeg (nI i + 2))) (xs (Int32.toNatClampNeg (nI i + 3))) (xs (Int32.toNatClampNeg (nI i + 4))) (xs (Int32.toNatClampNeg (nI i + 5)))  τ hI
  refine lv_aload_n hx hb dL_law_151 rfl (lv_at hl 1 rfl) ?_
  refine lv_aload_n hx hb dL_law_152 rfl (lv_at hl 0 rfl) ?_
  refine lv_iload_n hx hb dL_law_153 rfl (lv_at hl 3 rfl) ?_
  refine lv_iconst (v := 1) hx hb dL_law_154 (by decide) ?_
  refine lv_iadd hx hb dL_law_155 ?_
  refine va_sld hx hb hX hbl hbA hH.2 hi1 dL_law_156 ?_
  refine lv_aload_n hx hb dL_law_157 rfl (lv_at hl 0 rfl) ?_
  refine lv_iload_n hx hb dL_law_158 rfl (lv_at hl 3 rfl) ?_
  refine lv_iconst (v := 2) hx hb dL_law_159 (by decide) ?_
  refine lv_iadd hx hb dL_law_160 ?_
  refine va_sld hx hb hX hbl hbA hH.2 hi2 dL_law_161 ?_
  refine lv_aload_n hx hb dL_law_162 rfl (lv_at hl 0 rfl) ?_
  refine lv_iload_n hx hb dL_law_163 rfl (lv_at hl 3 rfl) ?_
  refine lv_iconst (v := 3) hx hb dL_law_164 (by decide) ?_
  refine lv_iadd hx hb dL_law_165 ?_
  refine va_sld hx hb hX hbl hbA hH.2 hi3 dL_law_166 ?_
  refine lv_aload_n hx hb dL_law_167 rfl (lv_at hl 0 rfl) ?_
  refine lv_iload_n hx hb dL_law_168 rfl (lv_at hl 3 rfl) ?_
  refine lv_iconst (v := 4) hx hb dL_law_169 (by decide) ?_
  refine lv_iadd hx hb dL_law_170 ?_
  refine va_sld hx hb hX hbl hbA hH.2 hi4 dL_law_171 ?_
  refine lv_aload_n hx hb dL_law_172 rfl (lv_at hl 0 rfl) ?_
  refine lv_iload_n hx hb dL_law_173 rfl (lv_at hl 3 rfl) ?_
  refine lv_iconst (v := 5) hx hb dL_law_174 (by decide) ?_
  refine lv_iadd hx hb dL_law_175 ?_
  refine va_sld hx hb hX hbl hbA hH.2 hi5 dL_law_176 ?_
  refine c_Vi X hH (k := 0) (n := 5) (As := [.int _, .int _, .int _, .int _, .int _]) (rest := []) (c_WP_talk_0 l G (N := N) h1) (by decide) rfl rfl tw_206 tw_203 tw_204 tw_205 tw_1 (by decide +kernel) ⟨by decide, by decide⟩ rfl hl.1 rfl (Nat.le_of_ble_eq_true rfl) ⟨by decide, by decide⟩ dL_law_177 (fun H locs hH => ?_)
  refine lv_aload_n hx hb dL_law_180 rfl (lv_at hl 2 rfl) ?_
  refine lv_aload_n hx hb dL_law_181 rfl (lv_at hl 0 rfl) ?_
  refine lv_iload_n hx hb dL_law_182 rfl (lv_at hl 3 rfl) ?_
  refine lv_iconst (v := 1) hx hb dL_law_183 (by decide) ?_
  refine lv_iadd hx hb dL_law_184 ?_
  refine va_sld hx hb hX hbl hbA hH.2 hi1 dL_law_185 ?_
  refine lv_aload_n hx hb dL_law_186 rfl (lv_at hl 0 rfl) ?_
  refine lv_iload_n hx hb dL_law_187 rfl (lv_at hl 3 rfl) ?_
  refine lv_iconst (v := 2) hx hb dL_law_188 (by decide) ?_
  refine lv_iadd hx hb dL_law_189 ?_
  refine va_sld hx hb hX hbl hbA hH.2 hi2 dL_law_190 ?_
  refine lv_aload_n hx hb dL_law_191 rfl (lv_at hl 0 rfl) ?_
  refine lv_iload_n hx hb dL_law_192 rfl (lv_at hl 3 rfl) ?_
  refine lv_iconst (v := 3) hx hb dL_law_193 (by decide) ?_
  refine lv_iadd hx hb dL_law_194 ?_
  refine va_sld hx hb hX hbl hbA hH.2 hi3 dL_law_195 ?_
  refine lv_aload_n hx hb dL_law_196 rfl (lv_at hl 0 rfl) ?_
  refine lv_iload_n hx hb dL_law_197 rfl (lv_at hl 3 rfl) ?_
  refine lv_iconst (v := 4) hx hb dL_law_198 (by decide) ?_
  refine lv_iadd hx hb dL_law_199 ?_
  refine va_sld hx hb hX hbl hbA hH.2 hi4 dL_law_200 ?_
  refine lv_aload_n hx hb dL_law_201 rfl (lv_at hl 0 rfl) ?_
  refine lv_iload_n hx hb dL_law_202 rfl (lv_at hl 3 rfl) ?_
  refine lv_iconst (v := 5) hx hb dL_law_203 (by decide) ?_
  refine lv_iadd hx hb dL_law_204 ?_
  refine va_sld hx hb hX hbl hbA hH.2 hi5 dL_law_205 ?_
  refine c_Vi X hH (k := 42) (n := 5) (As := [.int _, .int _, .int _, .int _, .int _]) (rest := [.int _]) (c_Mo_talk_42 l G (N := N) h2) (by decide) rfl rfl tw_612 tw_609 tw_610 tw_611 tw_13 (by decide +kernel) ⟨by decide, by decide⟩ rfl hl.1 rfl (Nat.le_of_ble_eq_true rfl) ⟨by decide, by decide⟩ dL_law_206 (fun H locs hH => ?_)
  refine lv_icmp_eq (tgt := 876) hx hb dL_law_209 (by decide) (fun c1 => ?_) (fun c1 => ?_)
  · exact hk τ2 _ _ _ hI2 hH hl
  · exact absurd rfl c1
set_option maxHeartbeats 4000000 in
set_option maxRecDepth 100000 in
theorem lc_must {l : Launch} {G : GT} {N : Nat} {I : Hp → Prop} {p : Program} {e : Env} {s : State} {m : MethodId} {below : List Frame} {meth : Method} {c : Code} {b L : Nat} {xs : Nat → Int32} (hO : Ops N I) (X : Cx G p s m #[Value.ref b] meth c cL_law 4 RL (some .boolean)) (hZ : zG G = s.heap.size) (hX : va_X b L xs s s.heap) (hbl : b < s.heap.size) (hL : L ≤ 3072) {i : Nat} (hi : i + 6 ≤ L) {τ : Hp} {H : Heap} {locs : List Loc} {ls : Array Slot} (hI : I τ) (hH : Hs G τ s H locs) (hl : lv_has ls 4 [(0, .ref b), (1, .ref (aG G 0)), (2, .ref (aG G 42)), (3, .int (nI i))]) (hk : ∀ (τ : Hp) (H : Heap) (locs : List Loc) (ls : Array Slot), I τ → Hs G τ s H locs → lv_has ls 4 [(0, .ref b), (1, .ref (aG G 0)), (2, .ref (aG G 42)), (3, .int (nI i))] → W p l e room_1 s m #[Value.ref b] below meth c H locs 66 7035 (lw_Z below #[Value.ref b] s) (F0 m 876 ls [])) : W p l e room_1 s m #[Value.ref b] below meth c H locs 66 7035 (lw_Z below #[Value.ref b] s) (F0 m 214 ls []) := by
  have hx := X.hx
  have hb := X.hb
  have hbA : ¬ Fr G b := by show ¬ zG G ≤ b; rw [hZ]; omega
  have hi1 : vp_in (nI i + 1) L := lx_in (j := 1) (by decide) hi hL
  have hi2 : vp_in (nI i + 2) L := lx_in (j := 2) (by decide) hi hL
  have hi3 : vp_in (nI i + 3) L := lx_in (j := 3) (by decide) hi hL
  have hi4 : vp_in (nI i + 4) L := lx_in (j := 4) (by decide) hi hL
  have hi5 : vp_in (nI i + 5) L := lx_in (j := 5) (by decide) hi hL
  by_cases c4 : xs (Int32.toNatClampNeg (nI i + 4)) = 0
  ·
    obtain ⟨r, τ1, τ2, h1, h2, hI2⟩ := hO.2.2.1 (xs (Int32.toNatClampNeg (nI i + 1))) (xs (Int32.toNatClampNeg (nI i + 2))) (xs (Int32.toNatClampNeg (nI i + 3))) (0) (by decide) τ hI
    refine lv_aload_n hx hb dL_law_214 rfl (lv_at hl 1 rfl) ?_
    refine lv_aload_n hx hb dL_law_215 rfl (lv_at hl 0 rfl) ?_
    refine lv_iload_n hx hb dL_law_216 rfl (lv_at hl 3 rfl) ?_
    refine lv_iconst (v := 1) hx hb dL_law_217 (by decide) ?_
    refine lv_iadd hx hb dL_law_218 ?_
    refine va_sld hx hb hX hbl hbA hH.2 hi1 dL_law_219 ?_
    refine lv_aload_n hx hb dL_law_220 rfl (lv_at hl 0 rfl) ?_
    refine lv_iload_n hx hb dL_law_221 rfl (lv_at hl 3 rfl) ?_
    refine lv_iconst (v := 2) hx hb dL_law_222 (by decide) ?_
    refine lv_iadd hx hb dL_law_223 ?_
    refine va_sld hx hb hX hbl hbA hH.2 hi2 dL_law_224 ?_
    refine lv_aload_n hx hb dL_law_225 rfl (lv_at hl 0 rfl) ?_
    refine lv_iload_n hx hb dL_law_226 rfl (lv_at hl 3 rfl) ?_
    refine lv_iconst (v := 3) hx hb dL_law_227 (by decide) ?_
    refine lv_iadd hx hb dL_law_228 ?_
    refine va_sld hx hb hX hbl hbA hH.2 hi3 dL_law_229 ?_
    refine lv_aload_n hx hb dL_law_230 rfl (lv_at hl 0 rfl) ?_
    refine lv_iload_n hx hb dL_law_231 rfl (lv_at hl 3 rfl) ?_
    refine lv_iconst (v := 4) hx hb dL_law_232 (by decide) ?_
    refine lv_iadd hx hb dL_law_233 ?_
    refine va_sld hx hb hX hbl hbA hH.2 hi4 dL_law_234 ?_
    refine lv_if_eq (tgt := 242) hx hb dL_law_235 (by decide) (fun c1 => ?_) (fun c1 => ?_)
    rotate_left 1
    · exact absurd c4 c1
    refine lv_iconst (v := 0) hx hb dL_law_242 (by decide) ?_
    refine c_Vi X hH (k := 0) (n := 4) (As := [.int _, .int _, .int _, .int _]) (rest := []) (c_WP_must_0 l G (N := N) h1) (by decide) rfl rfl tw_231 tw_228 tw_229 tw_230 tw_1 (by decide +kernel) ⟨by decide, by decide⟩ rfl hl.1 rfl (Nat.le_of_ble_eq_true rfl) ⟨by decide, by decide⟩ dL_law_243 (fun H locs hH => ?_)
    refine lv_aload_n hx hb dL_law_246 rfl (lv_at hl 2 rfl) ?_
    refine lv_aload_n hx hb dL_law_247 rfl (lv_at hl 0 rfl) ?_
    refine lv_iload_n hx hb dL_law_248 rfl (lv_at hl 3 rfl) ?_
    refine lv_iconst (v := 1) hx hb dL_law_249 (by decide) ?_
    refine lv_iadd hx hb dL_law_250 ?_
    refine va_sld hx hb hX hbl hbA hH.2 hi1 dL_law_251 ?_
    refine lv_aload_n hx hb dL_law_252 rfl (lv_at hl 0 rfl) ?_
    refine lv_iload_n hx hb dL_law_253 rfl (lv_at hl 3 rfl) ?_
    refine lv_iconst (v := 2) hx hb dL_law_254 (by decide) ?_
    refine lv_iadd hx hb dL_law_255 ?_
    refine va_sld hx hb hX hbl hbA hH.2 hi2 dL_law_256 ?_
    refine lv_aload_n hx hb dL_law_257 rfl (lv_at hl 0 rfl) ?_
    refine lv_iload_n hx hb dL_law_258 rfl (lv_at hl 3 rfl) ?_
    refine lv_iconst (v := 3) hx hb dL_law_259 (by decide) ?_
    refine lv_iadd hx hb dL_law_260 ?_
    refine va_sld hx hb hX hbl hbA hH.2 hi3 dL_law_261 ?_
    refine lv_aload_n hx hb dL_law_262 rfl (lv_at hl 0 rfl) ?_
    refine lv_iload_n hx hb dL_law_263 rfl (lv_at hl 3 rfl) ?_
    refine lv_iconst (v := 4) hx hb dL_law_264 (by decide) ?_
    refine lv_iadd hx hb dL_law_265 ?_
    refine va_sld hx hb hX hbl hbA hH.2 hi4 dL_law_266 ?_
    refine lv_if_eq (tgt := 274) hx hb dL_law_267 (by decide) (fun c1 => ?_) (fun c1 => ?_)
    rotate_left 1
    · exact absurd c4 c1
    refine lv_iconst (v := 0) hx hb dL_law_274 (by decide) ?_
    refine c_Vi X hH (k := 42) (n := 4) (As := [.int _, .int _, .int _, .int _]) (rest := [.int _]) (c_Mo_must_42 l G (N := N) h2) (by decide) rfl rfl tw_625 tw_622 tw_623 tw_624 tw_13 (by decide +kernel) ⟨by decide, by decide⟩ rfl hl.1 rfl (Nat.le_of_ble_eq_true rfl) ⟨by decide, by decide⟩ dL_law_275 (fun H locs hH => ?_)
    refine lv_icmp_eq (tgt := 876) hx hb dL_law_278 (by decide) (fun c1 => ?_) (fun c1 => ?_)
    · exact hk τ2 _ _ _ hI2 hH hl
    · exact absurd rfl c1
  ·
    obtain ⟨r, τ1, τ2, h1, h2, hI2⟩ := hO.2.2.1 (xs (Int32.toNatClampNeg (nI i + 1))) (xs (Int32.toNatClampNeg (nI i + 2))) (xs (Int32.toNatClampNeg (nI i + 3))) (1) (by decide) τ hI
    refine lv_aload_n hx hb dL_law_214 rfl (lv_at hl 1 rfl) ?_
    refine lv_aload_n hx hb dL_law_215 rfl (lv_at hl 0 rfl) ?_
    refine lv_iload_n hx hb dL_law_216 rfl (lv_at hl 3 rfl) ?_
    refine lv_iconst (v := 1) hx hb dL_law_217 (by decide) ?_
    refine lv_iadd hx hb dL_law_218 ?_
    refine va_sld hx hb hX hbl hbA hH.2 hi1 dL_law_219 ?_
    refine lv_aload_n hx hb dL_law_220 rfl (lv_at hl 0 rfl) ?_
    refine lv_iload_n hx hb dL_law_221 rfl (lv_at hl 3 rfl) ?_
    refine lv_iconst (v := 2) hx hb dL_law_222 (by decide) ?_
    refine lv_iadd hx hb dL_law_223 ?_
    refine va_sld hx hb hX hbl hbA hH.2 hi2 dL_law_224 ?_
    refine lv_aload_n hx hb dL_law_225 rfl (lv_at hl 0 rfl) ?_
    refine lv_iload_n hx hb dL_law_226 rfl (lv_at hl 3 rfl) ?_
    refine lv_iconst (v := 3) hx hb dL_law_227 (by decide) ?_
    refine lv_iadd hx hb dL_law_228 ?_
    refine va_sld hx hb hX hbl hbA hH.2 hi3 dL_law_229 ?_
    refine lv_aload_n hx hb dL_law_230 rfl (lv_at hl 0 rfl) ?_
    refine lv_iload_n hx hb dL_law_231 rfl (lv_at hl 3 rfl) ?_
    refine lv_iconst (v := 4) hx hb dL_law_232 (by decide) ?_
    refine lv_iadd hx hb dL_law_233 ?_
    refine va_sld hx hb hX hbl hbA hH.2 hi4 dL_law_234 ?_
    refine lv_if_eq (tgt := 242) hx hb dL_law_235 (by decide) (fun c1 => ?_) (fun c1 => ?_)
    · exact absurd c1 c4
    refine lv_iconst (v := 1) hx hb dL_law_238 (by decide) ?_
    refine lv_goto (tgt := 243) hx hb dL_law_239 (by decide) ?_
    refine c_Vi X hH (k := 0) (n := 4) (As := [.int _, .int _, .int _, .int _]) (rest := []) (c_WP_must_0 l G (N := N) h1) (by decide) rfl rfl tw_231 tw_228 tw_229 tw_230 tw_1 (by decide +kernel) ⟨by decide, by decide⟩ rfl hl.1 rfl (Nat.le_of_ble_eq_true rfl) ⟨by decide, by decide⟩ dL_law_243 (fun H locs hH => ?_)
    refine lv_aload_n hx hb dL_law_246 rfl (lv_at hl 2 rfl) ?_
    refine lv_aload_n hx hb dL_law_247 rfl (lv_at hl 0 rfl) ?_
    refine lv_iload_n hx hb dL_law_248 rfl (lv_at hl 3 rfl) ?_
    refine lv_iconst (v := 1) hx hb dL_law_249 (by decide) ?_
    refine lv_iadd hx hb dL_law_250 ?_
    refine va_sld hx hb hX hbl hbA hH.2 hi1 dL_law_251 ?_
    refine lv_aload_n hx hb dL_law_252 rfl (lv_at hl 0 rfl) ?_
    refine lv_iload_n hx hb dL_law_253 rfl (lv_at hl 3 rfl) ?_
    refine lv_iconst (v := 2) hx hb dL_law_254 (by decide) ?_
    refine lv_iadd hx hb dL_law_255 ?_
    refine va_sld hx hb hX hbl hbA hH.2 hi2 dL_law_256 ?_
    refine lv_aload_n hx hb dL_law_257 rfl (lv_at hl 0 rfl) ?_
    refine lv_iload_n hx hb dL_law_258 rfl (lv_at hl 3 rfl) ?_
    refine lv_iconst (v := 3) hx hb dL_law_259 (by decide) ?_
    refine lv_iadd hx hb dL_law_260 ?_
    refine va_sld hx hb hX hbl hbA hH.2 hi3 dL_law_261 ?_
    refine lv_aload_n hx hb dL_law_262 rfl (lv_at hl 0 rfl) ?_
    refine lv_iload_n hx hb dL_law_263 rfl (lv_at hl 3 rfl) ?_
    refine lv_iconst (v := 4) hx hb dL_law_264 (by decide) ?_
    refine lv_iadd hx hb dL_law_265 ?_
    refine va_sld hx hb hX hbl hbA hH.2 hi4 dL_law_266 ?_
    refine lv_if_eq (tgt := 274) hx hb dL_law_267 (by decide) (fun c1 => ?_) (fun c1 => ?_)
    · exact absurd c1 c4
    refine lv_iconst (v := 1) hx hb dL_law_270 (by decide) ?_
    refine lv_goto (tgt := 275) hx hb dL_law_271 (by decide) ?_
    refine c_Vi X hH (k := 42) (n := 4) (As := [.int _, .int _, .int _, .int _]) (rest := [.int _]) (c_Mo_must_42 l G (N := N) h2) (by decide) rfl rfl tw_625 tw_622 tw_623 tw_624 tw_13 (by decide +kernel) ⟨by decide, by decide⟩ rfl hl.1 rfl (Nat.le_of_ble_eq_true rfl) ⟨by decide, by decide⟩ dL_law_275 (fun H locs hH => ?_)
    refine lv_icmp_eq (tgt := 876) hx hb dL_law_278 (by decide) (fun c1 => ?_) (fun c1 => ?_)
    · exact hk τ2 _ _ _ hI2 hH hl
    · exact absurd rfl c1
set_option maxHeartbeats 4000000 in
set_option maxRecDepth 100000 in
theorem lc_bar {l : Launch} {G : GT} {N : Nat} {I : Hp → Prop} {p : Program} {e : Env} {s : State} {m : MethodId} {below : List Frame} {meth : Method} {c : Code} {b L : Nat} {xs : Nat → Int32} (hO : Ops N I) (X : Cx G p s m #[Value.ref b] meth c cL_law 4 RL (some .boolean)) (hZ : zG G = s.heap.size) (hX : va_X b L xs s s.heap) (hbl : b < s.heap.size) (hL : L ≤ 3072) {i : Nat} (hi : i + 6 ≤ L) {τ : Hp} {H : Heap} {locs : List Loc} {ls : Array Slot} (hI : I τ) (hH : Hs G τ s H locs) (hl : lv_has ls 4 [(0, .ref b), (1, .ref (aG G 0)), (2, .ref (aG G 42)), (3, .int (nI i))]) (hk : ∀ (τ : Hp) (H : Heap) (locs : List Loc) (ls : Array Slot), I τ → Hs G τ s H locs → lv_has ls 4 [(0, .ref b), (1, .ref (aG G 0)), (2, .ref (aG G 42)), (3, .int (nI i))] → W p l e room_1 s m #[Value.ref b] below meth c H locs 66 7035 (lw_Z below #[Value.ref b] s) (F0 m 876 ls [])) : W p l e room_1 s m #[Value.ref b] below meth c H locs 66 7035 (lw_Z below #[Value.ref b] s) (F0 m 283 ls []) := by
  have hx := X.hx
  have hb := X.hb
  have hbA : ¬ Fr G b := by show ¬ zG G ≤ b; rw [hZ]; omega
  have hi1 : vp_in (nI i + 1) L := lx_in (j := 1) (by decide) hi hL
  have hi2 : vp_in (nI i + 2) L := lx_in (j := 2) (by decide) hi hL
  have hi3 : vp_in (nI i + 3) L := lx_in (j := 3) (by decide) hi hL
  have hi4 : vp_in (nI i + 4) L := lx_in (j := 4) (by decide) hi hL
  have hi5 : vp_in (nI i + 5) L := lx_in (j := 5) (by decide) hi hL
  by_cases c4 : xs (Int32.toNatClampNeg (nI i + 4)) = 0
  ·
    obtain ⟨r, τ1, τ2, h1, h2, hI2⟩ := hO.2.2.2.1 (xs (Int32.toNatClampNeg (nI i + 1))) (xs (Int32.toNatClampNeg (nI i + 2))) (xs (Int32.toNatClampNeg (nI i + 3))) (0) (by decide) τ hI
    refine lv_aload_n hx hb dL_law_283 rfl (lv_at hl 1 rfl) ?_
    refine lv_aload_n hx hb dL_law_284 rfl (lv_at hl 0 rfl) ?_
    refine lv_iload_n hx hb dL_law_285 rfl (lv_at hl 3 rfl) ?_
    refine lv_iconst (v := 1) hx hb dL_law_286 (by decide) ?_
    refine lv_iadd hx hb dL_law_287 ?_
    refine va_sld hx hb hX hbl hbA hH.2 hi1 dL_law_288 ?_
    refine lv_aload_n hx hb dL_law_289 rfl (lv_at hl 0 rfl) ?_
    refine lv_iload_n hx hb dL_law_290 rfl (lv_at hl 3 rfl) ?_
    refine lv_iconst (v := 2) hx hb dL_law_291 (by decide) ?_
    refine lv_iadd hx hb dL_law_292 ?_
    refine va_sld hx hb hX hbl hbA hH.2 hi2 dL_law_293 ?_
    refine lv_aload_n hx hb dL_law_294 rfl (lv_at hl 0 rfl) ?_
    refine lv_iload_n hx hb dL_law_295 rfl (lv_at hl 3 rfl) ?_
    refine lv_iconst (v := 3) hx hb dL_law_296 (by decide) ?_
    refine lv_iadd hx hb dL_law_297 ?_
    refine va_sld hx hb hX hbl hbA hH.2 hi3 dL_law_298 ?_
    refine lv_aload_n hx hb dL_law_299 rfl (lv_at hl 0 rfl) ?_
    refine lv_iload_n hx hb dL_law_300 rfl (lv_at hl 3 rfl) ?_
    refine lv_iconst (v := 4) hx hb dL_law_301 (by decide) ?_
    refine lv_iadd hx hb dL_law_302 ?_
    refine va_sld hx hb hX hbl hbA hH.2 hi4 dL_law_303 ?_
    refine lv_if_eq (tgt := 311) hx hb dL_law_304 (by decide) (fun c1 => ?_) (fun c1 => ?_)
    rotate_left 1
    · exact absurd c4 c1
    refine lv_iconst (v := 0) hx hb dL_law_311 (by decide) ?_
    refine c_Vi X hH (k := 0) (n := 4) (As := [.int _, .int _, .int _, .int _]) (rest := []) (c_WP_bar_0 l G (N := N) h1) (by decide) rfl rfl tw_241 tw_238 tw_239 tw_240 tw_1 (by decide +kernel) ⟨by decide, by decide⟩ rfl hl.1 rfl (Nat.le_of_ble_eq_true rfl) ⟨by decide, by decide⟩ dL_law_312 (fun H locs hH => ?_)
    refine lv_aload_n hx hb dL_law_315 rfl (lv_at hl 2 rfl) ?_
    refine lv_aload_n hx hb dL_law_316 rfl (lv_at hl 0 rfl) ?_
    refine lv_iload_n hx hb dL_law_317 rfl (lv_at hl 3 rfl) ?_
    refine lv_iconst (v := 1) hx hb dL_law_318 (by decide) ?_
    refine lv_iadd hx hb dL_law_319 ?_
    refine va_sld hx hb hX hbl hbA hH.2 hi1 dL_law_320 ?_
    refine lv_aload_n hx hb dL_law_321 rfl (lv_at hl 0 rfl) ?_
    refine lv_iload_n hx hb dL_law_322 rfl (lv_at hl 3 rfl) ?_
    refine lv_iconst (v := 2) hx hb dL_law_323 (by decide) ?_
    refine lv_iadd hx hb dL_law_324 ?_
    refine va_sld hx hb hX hbl hbA hH.2 hi2 dL_law_325 ?_
    refine lv_aload_n hx hb dL_law_326 rfl (lv_at hl 0 rfl) ?_
    refine lv_iload_n hx hb dL_law_327 rfl (lv_at hl 3 rfl) ?_
    refine lv_iconst (v := 3) hx hb dL_law_328 (by decide) ?_
    refine lv_iadd hx hb dL_law_329 ?_
    refine va_sld hx hb hX hbl hbA hH.2 hi3 dL_law_330 ?_
    refine lv_aload_n hx hb dL_law_331 rfl (lv_at hl 0 rfl) ?_
    refine lv_iload_n hx hb dL_law_332 rfl (lv_at hl 3 rfl) ?_
    refine lv_iconst (v := 4) hx hb dL_law_333 (by decide) ?_
    refine lv_iadd hx hb dL_law_334 ?_
    refine va_sld hx hb hX hbl hbA hH.2 hi4 dL_law_335 ?_
    refine lv_if_eq (tgt := 343) hx hb dL_law_336 (by decide) (fun c1 => ?_) (fun c1 => ?_)
    rotate_left 1
    · exact absurd c4 c1
    refine lv_iconst (v := 0) hx hb dL_law_343 (by decide) ?_
    refine c_Vi X hH (k := 42) (n := 4) (As := [.int _, .int _, .int _, .int _]) (rest := [.int _]) (c_Mo_bar_42 l G (N := N) h2) (by decide) rfl rfl tw_629 tw_626 tw_627 tw_628 tw_13 (by decide +kernel) ⟨by decide, by decide⟩ rfl hl.1 rfl (Nat.le_of_ble_eq_true rfl) ⟨by decide, by decide⟩ dL_law_344 (fun H locs hH => ?_)
    refine lv_icmp_eq (tgt := 876) hx hb dL_law_347 (by decide) (fun c1 => ?_) (fun c1 => ?_)
    · exact hk τ2 _ _ _ hI2 hH hl
    · exact absurd rfl c1
  ·
    obtain ⟨r, τ1, τ2, h1, h2, hI2⟩ := hO.2.2.2.1 (xs (Int32.toNatClampNeg (nI i + 1))) (xs (Int32.toNatClampNeg (nI i + 2))) (xs (Int32.toNatClampNeg (nI i + 3))) (1) (by decide) τ hI
    refine lv_aload_n hx hb dL_law_283 rfl (lv_at hl 1 rfl) ?_
    refine lv_aload_n hx hb dL_law_284 rfl (lv_at hl 0 rfl) ?_
    refine lv_iload_n hx hb dL_law_285 rfl (lv_at hl 3 rfl) ?_
    refine lv_iconst (v := 1) hx hb dL_law_286 (by decide) ?_
    refine lv_iadd hx hb dL_law_287 ?_
    refine va_sld hx hb hX hbl hbA hH.2 hi1 dL_law_288 ?_
    refine lv_aload_n hx hb dL_law_289 rfl (lv_at hl 0 rfl) ?_
    refine lv_iload_n hx hb dL_law_290 rfl (lv_at hl 3 rfl) ?_
    refine lv_iconst (v := 2) hx hb dL_law_291 (by decide) ?_
    refine lv_iadd hx hb dL_law_292 ?_
    refine va_sld hx hb hX hbl hbA hH.2 hi2 dL_law_293 ?_
    refine lv_aload_n hx hb dL_law_294 rfl (lv_at hl 0 rfl) ?_
    refine lv_iload_n hx hb dL_law_295 rfl (lv_at hl 3 rfl) ?_
    refine lv_iconst (v := 3) hx hb dL_law_296 (by decide) ?_
    refine lv_iadd hx hb dL_law_297 ?_
    refine va_sld hx hb hX hbl hbA hH.2 hi3 dL_law_298 ?_
    refine lv_aload_n hx hb dL_law_299 rfl (lv_at hl 0 rfl) ?_
    refine lv_iload_n hx hb dL_law_300 rfl (lv_at hl 3 rfl) ?_
    refine lv_iconst (v := 4) hx hb dL_law_301 (by decide) ?_
    refine lv_iadd hx hb dL_law_302 ?_
    refine va_sld hx hb hX hbl hbA hH.2 hi4 dL_law_303 ?_
    refine lv_if_eq (tgt := 311) hx hb dL_law_304 (by decide) (fun c1 => ?_) (fun c1 => ?_)
    · exact absurd c1 c4
    refine lv_iconst (v := 1) hx hb dL_law_307 (by decide) ?_
    refine lv_goto (tgt := 312) hx hb dL_law_308 (by decide) ?_
    refine c_Vi X hH (k := 0) (n := 4) (As := [.int _, .int _, .int _, .int _]) (rest := []) (c_WP_bar_0 l G (N := N) h1) (by decide) rfl rfl tw_241 tw_238 tw_239 tw_240 tw_1 (by decide +kernel) ⟨by decide, by decide⟩ rfl hl.1 rfl (Nat.le_of_ble_eq_true rfl) ⟨by decide, by decide⟩ dL_law_312 (fun H locs hH => ?_)
    refine lv_aload_n hx hb dL_law_315 rfl (lv_at hl 2 rfl) ?_
    refine lv_aload_n hx hb dL_law_316 rfl (lv_at hl 0 rfl) ?_
    refine lv_iload_n hx hb dL_law_317 rfl (lv_at hl 3 rfl) ?_
    refine lv_iconst (v := 1) hx hb dL_law_318 (by decide) ?_
    refine lv_iadd hx hb dL_law_319 ?_
    refine va_sld hx hb hX hbl hbA hH.2 hi1 dL_law_320 ?_
    refine lv_aload_n hx hb dL_law_321 rfl (lv_at hl 0 rfl) ?_
    refine lv_iload_n hx hb dL_law_322 rfl (lv_at hl 3 rfl) ?_
    refine lv_iconst (v := 2) hx hb dL_law_323 (by decide) ?_
    refine lv_iadd hx hb dL_law_324 ?_
    refine va_sld hx hb hX hbl hbA hH.2 hi2 dL_law_325 ?_
    refine lv_aload_n hx hb dL_law_326 rfl (lv_at hl 0 rfl) ?_
    refine lv_iload_n hx hb dL_law_327 rfl (lv_at hl 3 rfl) ?_
    refine lv_iconst (v := 3) hx hb dL_law_328 (by decide) ?_
    refine lv_iadd hx hb dL_law_329 ?_
    refine va_sld hx hb hX hbl hbA hH.2 hi3 dL_law_330 ?_
    refine lv_aload_n hx hb dL_law_331 rfl (lv_at hl 0 rfl) ?_
    refine lv_iload_n hx hb dL_law_332 rfl (lv_at hl 3 rfl) ?_
    refine lv_iconst (v := 4) hx hb dL_law_333 (by decide) ?_
    refine lv_iadd hx hb dL_law_334 ?_
    refine va_sld hx hb hX hbl hbA hH.2 hi4 dL_law_335 ?_
    refine lv_if_eq (tgt := 343) hx hb dL_law_336 (by decide) (fun c1 => ?_) (fun c1 => ?_)
    · exact absurd c1 c4
    refine lv_iconst (v := 1) hx hb dL_law_339 (by decide) ?_
    refine lv_goto (tgt := 344) hx hb dL_law_340 (by decide) ?_
    refine c_Vi X hH (k := 42) (n := 4) (As := [.int _, .int _, .int _, .int _]) (rest := [.int _]) (c_Mo_bar_42 l G (N := N) h2) (by decide) rfl rfl tw_629 tw_626 tw_627 tw_628 tw_13 (by decide +kernel) ⟨by decide, by decide⟩ rfl hl.1 rfl (Nat.le_of_ble_eq_true rfl) ⟨by decide, by decide⟩ dL_law_344 (fun H locs hH => ?_)
    refine lv_icmp_eq (tgt := 876) hx hb dL_law_347 (by decide) (fun c1 => ?_) (fun c1 => ?_)
    · exact hk τ2 _ _ _ hI2 hH hl
    · exact absurd rfl c1
set_option maxHeartbeats 4000000 in
set_option maxRecDepth 100000 in
theorem lc_law {l : Launch} {G : GT} {N : Nat} {I : Hp → Prop} {p : Program} {e : Env} {s : State} {m : MethodId} {below : List Frame} {meth : Method} {c : Code} {b L : Nat} {xs : Nat → Int32} (hO : Ops N I) (X : Cx G p s m #[Value.ref b] meth c cL_law 4 RL (some .boolean)) (hZ : zG G = s.heap.size) (hX : va_X b L xs s s.heap) (hbl : b < s.heap.size) (hL : L ≤ 3072) {i : Nat} (hi : i + 6 ≤ L) {τ : Hp} {H : Heap} {locs : List Loc} {ls : Array Slot} (hI : I τ) (hH : Hs G τ s H locs) (hl : lv_has ls 4 [(0, .ref b), (1, .ref (aG G 0)), (2, .ref (aG G 42)), (3, .int (nI i))]) (hk : ∀ (τ : Hp) (H : Heap) (locs : List Loc) (ls : Array Slot), I τ → Hs G τ s H locs → lv_has ls 4 [(0, .ref b), (1, .ref (aG G 0)), (2, .ref (aG G 42)), (3, .int (nI i))] → W p l e room_1 s m #[Value.ref b] below meth c H locs 66 7035 (lw_Z below #[Value.ref b] s) (F0 m 876 ls [])) : W p l e room_1 s m #[Value.ref b] below meth c H locs 66 7035 (lw_Z below #[Value.ref b] s) (F0 m 352 ls []) := by
  have hx := X.hx
  have hb := X.hb
  have hbA : ¬ Fr G b := by show ¬ zG G ≤ b; rw [hZ]; omega
  have hi1 : vp_in (nI i + 1) L := lx_in (j := 1) (by decide) hi hL
  have hi2 : vp_in (nI i + 2) L := lx_in (j := 2) (by decide) hi hL
  have hi3 : vp_in (nI i + 3) L := lx_in (j := 3) (by decide) hi hL
  have hi4 : vp_in (nI i + 4) L := lx_in (j := 4) (by decide) hi hL
  have hi5 : vp_in (nI i + 5) L := lx_in (j := 5) (by decide) hi hL
  by_cases c4 : xs (Int32.toNatClampNeg (nI i + 3)) = 0
  ·
    obtain ⟨r, τ1, τ2, h1, h2, hI2⟩ := hO.2.2.2.2.1 (xs (Int32.toNatClampNeg (nI i + 1))) (xs (Int32.toNatClampNeg (nI i + 2))) (0) (by decide) τ hI
    refine lv_aload_n hx hb dL_law_352 rfl (lv_at hl 1 rfl) ?_
    refine lv_aload_n hx hb dL_law_353 rfl (lv_at hl 0 rfl) ?_
    refine lv_iload_n hx hb dL_law_354 rfl (lv_at hl 3 rfl) ?_
    refine lv_iconst (v := 1) hx hb dL_law_355 (by decide) ?_
    refine lv_iadd hx hb dL_law_356 ?_
    refine va_sld hx hb hX hbl hbA hH.2 hi1 dL_law_357 ?_
    refine lv_aload_n hx hb dL_law_358 rfl (lv_at hl 0 rfl) ?_
    refine lv_iload_n hx hb dL_law_359 rfl (lv_at hl 3 rfl) ?_
    refine lv_iconst (v := 2) hx hb dL_law_360 (by decide) ?_
    refine lv_iadd hx hb dL_law_361 ?_
    refine va_sld hx hb hX hbl hbA hH.2 hi2 dL_law_362 ?_
    refine lv_aload_n hx hb dL_law_363 rfl (lv_at hl 0 rfl) ?_
    refine lv_iload_n hx hb dL_law_364 rfl (lv_at hl 3 rfl) ?_
    refine lv_iconst (v := 3) hx hb dL_law_365 (by decide) ?_
    refine lv_iadd hx hb dL_law_366 ?_
    refine va_sld hx hb hX hbl hbA hH.2 hi3 dL_law_367 ?_
    refine lv_if_eq (tgt := 375) hx hb dL_law_368 (by decide) (fun c1 => ?_) (fun c1 => ?_)
    rotate_left 1
    · exact absurd c4 c1
    refine lv_iconst (v := 0) hx hb dL_law_375 (by decide) ?_
    refine c_Vi X hH (k := 0) (n := 3) (As := [.int _, .int _, .int _]) (rest := []) (c_WP_law_0 l G (N := N) h1) (by decide) rfl rfl tw_245 tw_242 tw_243 tw_244 tw_1 (by decide +kernel) ⟨by decide, by decide⟩ rfl hl.1 rfl (Nat.le_of_ble_eq_true rfl) ⟨by decide, by decide⟩ dL_law_376 (fun H locs hH => ?_)
    refine lv_aload_n hx hb dL_law_379 rfl (lv_at hl 2 rfl) ?_
    refine lv_aload_n hx hb dL_law_380 rfl (lv_at hl 0 rfl) ?_
    refine lv_iload_n hx hb dL_law_381 rfl (lv_at hl 3 rfl) ?_
    refine lv_iconst (v := 1) hx hb dL_law_382 (by decide) ?_
    refine lv_iadd hx hb dL_law_383 ?_
    refine va_sld hx hb hX hbl hbA hH.2 hi1 dL_law_384 ?_
    refine lv_aload_n hx hb dL_law_385 rfl (lv_at hl 0 rfl) ?_
    refine lv_iload_n hx hb dL_law_386 rfl (lv_at hl 3 rfl) ?_
    refine lv_iconst (v := 2) hx hb dL_law_387 (by decide) ?_
    refine lv_iadd hx hb dL_law_388 ?_
    refine va_sld hx hb hX hbl hbA hH.2 hi2 dL_law_389 ?_
    refine lv_aload_n hx hb dL_law_390 rfl (lv_at hl 0 rfl) ?_
    refine lv_iload_n hx hb dL_law_391 rfl (lv_at hl 3 rfl) ?_
    refine lv_iconst (v := 3) hx hb dL_law_392 (by decide) ?_
    refine lv_iadd hx hb dL_law_393 ?_
    refine va_sld hx hb hX hbl hbA hH.2 hi3 dL_law_394 ?_
    refine lv_if_eq (tgt := 402) hx hb dL_law_395 (by decide) (fun c1 => ?_) (fun c1 => ?_)
    rotate_left 1
    · exact absurd c4 c1
    refine lv_iconst (v := 0) hx hb dL_law_402 (by decide) ?_
    refine c_Vi X hH (k := 42) (n := 3) (As := [.int _, .int _, .int _]) (rest := [.int _]) (c_Mo_law_42 l G (N := N) h2) (by decide) rfl rfl tw_633 tw_630 tw_631 tw_632 tw_13 (by decide +kernel) ⟨by decide, by decide⟩ rfl hl.1 rfl (Nat.le_of_ble_eq_true rfl) ⟨by decide, by decide⟩ dL_law_403 (fun H locs hH => ?_)
    refine lv_icmp_eq (tgt := 876) hx hb dL_law_406 (by decide) (fun c1 => ?_) (fun c1 => ?_)
    · exact hk τ2 _ _ _ hI2 hH hl
    · exact absurd rfl c1
  ·
    obtain ⟨r, τ1, τ2, h1, h2, hI2⟩ := hO.2.2.2.2.1 (xs (Int32.toNatClampNeg (nI i + 1))) (xs (Int32.toNatClampNeg (nI i + 2))) (1) (by decide) τ hI
    refine lv_aload_n hx hb dL_law_352 rfl (lv_at hl 1 rfl) ?_
    refine lv_aload_n hx hb dL_law_353 rfl (lv_at hl 0 rfl) ?_
    refine lv_iload_n hx hb dL_law_354 rfl (lv_at hl 3 rfl) ?_
    refine lv_iconst (v := 1) hx hb dL_law_355 (by decide) ?_
    refine lv_iadd hx hb dL_law_356 ?_
    refine va_sld hx hb hX hbl hbA hH.2 hi1 dL_law_357 ?_
    refine lv_aload_n hx hb dL_law_358 rfl (lv_at hl 0 rfl) ?_
    refine lv_iload_n hx hb dL_law_359 rfl (lv_at hl 3 rfl) ?_
    refine lv_iconst (v := 2) hx hb dL_law_360 (by decide) ?_
    refine lv_iadd hx hb dL_law_361 ?_
    refine va_sld hx hb hX hbl hbA hH.2 hi2 dL_law_362 ?_
    refine lv_aload_n hx hb dL_law_363 rfl (lv_at hl 0 rfl) ?_
    refine lv_iload_n hx hb dL_law_364 rfl (lv_at hl 3 rfl) ?_
    refine lv_iconst (v := 3) hx hb dL_law_365 (by decide) ?_
    refine lv_iadd hx hb dL_law_366 ?_
    refine va_sld hx hb hX hbl hbA hH.2 hi3 dL_law_367 ?_
    refine lv_if_eq (tgt := 375) hx hb dL_law_368 (by decide) (fun c1 => ?_) (fun c1 => ?_)
    · exact absurd c1 c4
    refine lv_iconst (v := 1) hx hb dL_law_371 (by decide) ?_
    refine lv_goto (tgt := 376) hx hb dL_law_372 (by decide) ?_
    refine c_Vi X hH (k := 0) (n := 3) (As := [.int _, .int _, .int _]) (rest := []) (c_WP_law_0 l G (N := N) h1) (by decide) rfl rfl tw_245 tw_242 tw_243 tw_244 tw_1 (by decide +kernel) ⟨by decide, by decide⟩ rfl hl.1 rfl (Nat.le_of_ble_eq_true rfl) ⟨by decide, by decide⟩ dL_law_376 (fun H locs hH => ?_)
    refine lv_aload_n hx hb dL_law_379 rfl (lv_at hl 2 rfl) ?_
    refine lv_aload_n hx hb dL_law_380 rfl (lv_at hl 0 rfl) ?_
    refine lv_iload_n hx hb dL_law_381 rfl (lv_at hl 3 rfl) ?_
    refine lv_iconst (v := 1) hx hb dL_law_382 (by decide) ?_
    refine lv_iadd hx hb dL_law_383 ?_
    refine va_sld hx hb hX hbl hbA hH.2 hi1 dL_law_384 ?_
    refine lv_aload_n hx hb dL_law_385 rfl (lv_at hl 0 rfl) ?_
    refine lv_iload_n hx hb dL_law_386 rfl (lv_at hl 3 rfl) ?_
    refine lv_iconst (v := 2) hx hb dL_law_387 (by decide) ?_
    refine lv_iadd hx hb dL_law_388 ?_
    refine va_sld hx hb hX hbl hbA hH.2 hi2 dL_law_389 ?_
    refine lv_aload_n hx hb dL_law_390 rfl (lv_at hl 0 rfl) ?_
    refine lv_iload_n hx hb dL_law_391 rfl (lv_at hl 3 rfl) ?_
    refine lv_iconst (v := 3) hx hb dL_law_392 (by decide) ?_
    refine lv_iadd hx hb dL_law_393 ?_
    refine va_sld hx hb hX hbl hbA hH.2 hi3 dL_law_394 ?_
    refine lv_if_eq (tgt := 402) hx hb dL_law_395 (by decide) (fun c1 => ?_) (fun c1 => ?_)
    · exact absurd c1 c4
    refine lv_iconst (v := 1) hx hb dL_law_398 (by decide) ?_
    refine lv_goto (tgt := 403) hx hb dL_law_399 (by decide) ?_
    refine c_Vi X hH (k := 42) (n := 3) (As := [.int _, .int _, .int _]) (rest := [.int _]) (c_Mo_law_42 l G (N := N) h2) (by decide) rfl rfl tw_633 tw_630 tw_631 tw_632 tw_13 (by decide +kernel) ⟨by decide, by decide⟩ rfl hl.1 rfl (Nat.le_of_ble_eq_true rfl) ⟨by decide, by decide⟩ dL_law_403 (fun H locs hH => ?_)
    refine lv_icmp_eq (tgt := 876) hx hb dL_law_406 (by decide) (fun c1 => ?_) (fun c1 => ?_)
    · exact hk τ2 _ _ _ hI2 hH hl
    · exact absurd rfl c1
set_option maxHeartbeats 4000000 in
set_option maxRecDepth 100000 in
theorem lc_prices {l : Launch} {G : GT} {N : Nat} {I : Hp → Prop} {p : Program} {e : Env} {s : State} {m : MethodId} {below : List Frame} {meth : Method} {c : Code} {b L : Nat} {xs : Nat → Int32} (hO : Ops N I) (X : Cx G p s m #[Value.ref b] meth c cL_law 4 RL (some .boolean)) (hZ : zG G = s.heap.size) (hX : va_X b L xs s s.heap) (hbl : b < s.heap.size) (hL : L ≤ 3072) {i : Nat} (hi : i + 6 ≤ L) {τ : Hp} {H : Heap} {locs : List Loc} {ls : Array Slot} (hI : I τ) (hH : Hs G τ s H locs) (hl : lv_has ls 4 [(0, .ref b), (1, .ref (aG G 0)), (2, .ref (aG G 42)), (3, .int (nI i))]) (hk : ∀ (τ : Hp) (H : Heap) (locs : List Loc) (ls : Array Slot), I τ → Hs G τ s H locs → lv_has ls 4 [(0, .ref b), (1, .ref (aG G 0)), (2, .ref (aG G 42)), (3, .int (nI i))] → W p l e room_1 s m #[Value.ref b] below meth c H locs 66 7035 (lw_Z below #[Value.ref b] s) (F0 m 876 ls [])) : W p l e room_1 s m #[Value.ref b] below meth c H locs 66 7035 (lw_Z below #[Value.ref b] s) (F0 m 411 ls []) := by
  have hx := X.hx
  have hb := X.hb
  have hbA : ¬ Fr G b := by show ¬ zG G ≤ b; rw [hZ]; omega
  have hi1 : vp_in (nI i + 1) L := lx_in (j := 1) (by decide) hi hL
  have hi2 : vp_in (nI i + 2) L := lx_in (j := 2) (by decide) hi hL
  have hi3 : vp_in (nI i + 3) L := lx_in (j := 3) (by decide) hi hL
  have hi4 : vp_in (nI i + 4) L := lx_in (j := 4) (by decide) hi hL
  have hi5 : vp_in (nI i + 5) L := lx_in (j := 5) (by decide) hi hL
  obtain ⟨r, τ1, τ2, h1, h2, hI2⟩ := hO.2.2.2.2.2.1 (xs (Int32.toNatClampNeg (nI i + 1))) (xs (Int32.toNatClampNeg (nI i + 2)))  τ hI
  refine lv_aload_n hx hb dL_law_411 rfl (lv_at hl 1 rfl) ?_
  refine lv_aload_n hx hb dL_law_412 rfl (lv_at hl 0 rfl) ?_
  refine lv_iload_n hx hb dL_law_413 rfl (lv_at hl 3 rfl) ?_
  refine lv_iconst (v := 1) hx hb dL_law_414 (by decide) ?_
  refine lv_iadd hx hb dL_law_415 ?_
  refine va_sld hx hb hX hbl hbA hH.2 hi1 dL_law_416 ?_
  refine lv_aload_n hx hb dL_law_417 rfl (lv_at hl 0 rfl) ?_
  refine lv_iload_n hx hb dL_law_418 rfl (lv_at hl 3 rfl) ?_
  refine lv_iconst (v := 2) hx hb dL_law_419 (by decide) ?_
  refine lv_iadd hx hb dL_law_420 ?_
  refine va_sld hx hb hX hbl hbA hH.2 hi2 dL_law_421 ?_
  refine c_Vi X hH (k := 0) (n := 2) (As := [.int _, .int _]) (rest := []) (c_WP_prices_0 l G (N := N) h1) (by decide) rfl rfl tw_249 tw_246 tw_247 tw_248 tw_1 (by decide +kernel) ⟨by decide, by decide⟩ rfl hl.1 rfl (Nat.le_of_ble_eq_true rfl) ⟨by decide, by decide⟩ dL_law_422 (fun H locs hH => ?_)
  refine lv_aload_n hx hb dL_law_425 rfl (lv_at hl 2 rfl) ?_
  refine lv_aload_n hx hb dL_law_426 rfl (lv_at hl 0 rfl) ?_
  refine lv_iload_n hx hb dL_law_427 rfl (lv_at hl 3 rfl) ?_
  refine lv_iconst (v := 1) hx hb dL_law_428 (by decide) ?_
  refine lv_iadd hx hb dL_law_429 ?_
  refine va_sld hx hb hX hbl hbA hH.2 hi1 dL_law_430 ?_
  refine lv_aload_n hx hb dL_law_431 rfl (lv_at hl 0 rfl) ?_
  refine lv_iload_n hx hb dL_law_432 rfl (lv_at hl 3 rfl) ?_
  refine lv_iconst (v := 2) hx hb dL_law_433 (by decide) ?_
  refine lv_iadd hx hb dL_law_434 ?_
  refine va_sld hx hb hX hbl hbA hH.2 hi2 dL_law_435 ?_
  refine c_Vi X hH (k := 42) (n := 2) (As := [.int _, .int _]) (rest := [.int _]) (c_Mo_prices_42 l G (N := N) h2) (by decide) rfl rfl tw_637 tw_634 tw_635 tw_636 tw_13 (by decide +kernel) ⟨by decide, by decide⟩ rfl hl.1 rfl (Nat.le_of_ble_eq_true rfl) ⟨by decide, by decide⟩ dL_law_436 (fun H locs hH => ?_)
  refine lv_icmp_eq (tgt := 876) hx hb dL_law_439 (by decide) (fun c1 => ?_) (fun c1 => ?_)
  · exact hk τ2 _ _ _ hI2 hH hl
  · exact absurd rfl c1
set_option maxHeartbeats 4000000 in
set_option maxRecDepth 100000 in
theorem lc_weight {l : Launch} {G : GT} {N : Nat} {I : Hp → Prop} {p : Program} {e : Env} {s : State} {m : MethodId} {below : List Frame} {meth : Method} {c : Code} {b L : Nat} {xs : Nat → Int32} (hO : Ops N I) (X : Cx G p s m #[Value.ref b] meth c cL_law 4 RL (some .boolean)) (hZ : zG G = s.heap.size) (hX : va_X b L xs s s.heap) (hbl : b < s.heap.size) (hL : L ≤ 3072) {i : Nat} (hi : i + 6 ≤ L) {τ : Hp} {H : Heap} {locs : List Loc} {ls : Array Slot} (hI : I τ) (hH : Hs G τ s H locs) (hl : lv_has ls 4 [(0, .ref b), (1, .ref (aG G 0)), (2, .ref (aG G 42)), (3, .int (nI i))]) (hk : ∀ (τ : Hp) (H : Heap) (locs : List Loc) (ls : Array Slot), I τ → Hs G τ s H locs → lv_has ls 4 [(0, .ref b), (1, .ref (aG G 0)), (2, .ref (aG G 42)), (3, .int (nI i))] → W p l e room_1 s m #[Value.ref b] below meth c H locs 66 7035 (lw_Z below #[Value.ref b] s) (F0 m 876 ls [])) : W p l e room_1 s m #[Value.ref b] below meth c H locs 66 7035 (lw_Z below #[Value.ref b] s) (F0 m 444 ls []) := by
  have hx := X.hx
  have hb := X.hb
  have hbA : ¬ Fr G b := by show ¬ zG G ≤ b; rw [hZ]; omega
  have hi1 : vp_in (nI i + 1) L := lx_in (j := 1) (by decide) hi hL
  have hi2 : vp_in (nI i + 2) L := lx_in (j := 2) (by decide) hi hL
  have hi3 : vp_in (nI i + 3) L := lx_in (j := 3) (by decide) hi hL
  have hi4 : vp_in (nI i + 4) L := lx_in (j := 4) (by decide) hi hL
  have hi5 : vp_in (nI i + 5) L := lx_in (j := 5) (by decide) hi hL
  obtain ⟨r, τ1, τ2, h1, h2, hI2⟩ := hO.2.2.2.2.2.2.1 (xs (Int32.toNatClampNeg (nI i + 1))) (xs (Int32.toNatClampNeg (nI i + 2))) (xs (Int32.toNatClampNeg (nI i + 3))) (xs (Int32.toNatClampNeg (nI i + 4)))  τ hI
  refine lv_aload_n hx hb dL_law_444 rfl (lv_at hl 1 rfl) ?_
  refine lv_aload_n hx hb dL_law_445 rfl (lv_at hl 0 rfl) ?_
  refine lv_iload_n hx hb dL_law_446 rfl (lv_at hl 3 rfl) ?_
  refine lv_iconst (v := 1) hx hb dL_law_447 (by decide) ?_
  refine lv_iadd hx hb dL_law_448 ?_
  refine va_sld hx hb hX hbl hbA hH.2 hi1 dL_law_449 ?_
  refine lv_aload_n hx hb dL_law_450 rfl (lv_at hl 0 rfl) ?_
  refine lv_iload_n hx hb dL_law_451 rfl (lv_at hl 3 rfl) ?_
  refine lv_iconst (v := 2) hx hb dL_law_452 (by decide) ?_
  refine lv_iadd hx hb dL_law_453 ?_
  refine va_sld hx hb hX hbl hbA hH.2 hi2 dL_law_454 ?_
  refine lv_aload_n hx hb dL_law_455 rfl (lv_at hl 0 rfl) ?_
  refine lv_iload_n hx hb dL_law_456 rfl (lv_at hl 3 rfl) ?_
  refine lv_iconst (v := 3) hx hb dL_law_457 (by decide) ?_
  refine lv_iadd hx hb dL_law_458 ?_
  refine va_sld hx hb hX hbl hbA hH.2 hi3 dL_law_459 ?_
  refine lv_aload_n hx hb dL_law_460 rfl (lv_at hl 0 rfl) ?_
  refine lv_iload_n hx hb dL_law_461 rfl (lv_at hl 3 rfl) ?_
  refine lv_iconst (v := 4) hx hb dL_law_462 (by decide) ?_
  refine lv_iadd hx hb dL_law_463 ?_
  refine va_sld hx hb hX hbl hbA hH.2 hi4 dL_law_464 ?_
  refine c_Vi X hH (k := 0) (n := 4) (As := [.int _, .int _, .int _, .int _]) (rest := []) (c_WP_weight_0 l G (N := N) h1) (by decide) rfl rfl tw_253 tw_250 tw_251 tw_252 tw_1 (by decide +kernel) ⟨by decide, by decide⟩ rfl hl.1 rfl (Nat.le_of_ble_eq_true rfl) ⟨by decide, by decide⟩ dL_law_465 (fun H locs hH => ?_)
  refine lv_aload_n hx hb dL_law_468 rfl (lv_at hl 2 rfl) ?_
  refine lv_aload_n hx hb dL_law_469 rfl (lv_at hl 0 rfl) ?_
  refine lv_iload_n hx hb dL_law_470 rfl (lv_at hl 3 rfl) ?_
  refine lv_iconst (v := 1) hx hb dL_law_471 (by decide) ?_
  refine lv_iadd hx hb dL_law_472 ?_
  refine va_sld hx hb hX hbl hbA hH.2 hi1 dL_law_473 ?_
  refine lv_aload_n hx hb dL_law_474 rfl (lv_at hl 0 rfl) ?_
  refine lv_iload_n hx hb dL_law_475 rfl (lv_at hl 3 rfl) ?_
  refine lv_iconst (v := 2) hx hb dL_law_476 (by decide) ?_
  refine lv_iadd hx hb dL_law_477 ?_
  refine va_sld hx hb hX hbl hbA hH.2 hi2 dL_law_478 ?_
  refine lv_aload_n hx hb dL_law_479 rfl (lv_at hl 0 rfl) ?_
  refine lv_iload_n hx hb dL_law_480 rfl (lv_at hl 3 rfl) ?_
  refine lv_iconst (v := 3) hx hb dL_law_481 (by decide) ?_
  refine lv_iadd hx hb dL_law_482 ?_
  refine va_sld hx hb hX hbl hbA hH.2 hi3 dL_law_483 ?_
  refine lv_aload_n hx hb dL_law_484 rfl (lv_at hl 0 rfl) ?_
  refine lv_iload_n hx hb dL_law_485 rfl (lv_at hl 3 rfl) ?_
  refine lv_iconst (v := 4) hx hb dL_law_486 (by decide) ?_
  refine lv_iadd hx hb dL_law_487 ?_
  refine va_sld hx hb hX hbl hbA hH.2 hi4 dL_law_488 ?_
  refine c_Vi X hH (k := 42) (n := 4) (As := [.int _, .int _, .int _, .int _]) (rest := [.int _]) (c_Mo_weight_42 l G (N := N) h2) (by decide) rfl rfl tw_641 tw_638 tw_639 tw_640 tw_13 (by decide +kernel) ⟨by decide, by decide⟩ rfl hl.1 rfl (Nat.le_of_ble_eq_true rfl) ⟨by decide, by decide⟩ dL_law_489 (fun H locs hH => ?_)
  refine lv_icmp_eq (tgt := 876) hx hb dL_law_492 (by decide) (fun c1 => ?_) (fun c1 => ?_)
  · exact hk τ2 _ _ _ hI2 hH hl
  · exact absurd rfl c1
set_option maxHeartbeats 4000000 in
set_option maxRecDepth 100000 in
theorem lc_needed {l : Launch} {G : GT} {N : Nat} {I : Hp → Prop} {p : Program} {e : Env} {s : State} {m : MethodId} {below : List Frame} {meth : Method} {c : Code} {b L : Nat} {xs : Nat → Int32} (hO : Ops N I) (X : Cx G p s m #[Value.ref b] meth c cL_law 4 RL (some .boolean)) (hZ : zG G = s.heap.size) (hX : va_X b L xs s s.heap) (hbl : b < s.heap.size) (hL : L ≤ 3072) {i : Nat} (hi : i + 6 ≤ L) {τ : Hp} {H : Heap} {locs : List Loc} {ls : Array Slot} (hI : I τ) (hH : Hs G τ s H locs) (hl : lv_has ls 4 [(0, .ref b), (1, .ref (aG G 0)), (2, .ref (aG G 42)), (3, .int (nI i))]) (hk : ∀ (τ : Hp) (H : Heap) (locs : List Loc) (ls : Array Slot), I τ → Hs G τ s H locs → lv_has ls 4 [(0, .ref b), (1, .ref (aG G 0)), (2, .ref (aG G 42)), (3, .int (nI i))] → W p l e room_1 s m #[Value.ref b] below meth c H locs 66 7035 (lw_Z below #[Value.ref b] s) (F0 m 876 ls [])) : W p l e room_1 s m #[Value.ref b] below meth c H locs 66 7035 (lw_Z below #[Value.ref b] s) (F0 m 497 ls []) := by
  have hx := X.hx
  have hb := X.hb
  have hbA : ¬ Fr G b := by show ¬ zG G ≤ b; rw [hZ]; omega
  have hi1 : vp_in (nI i + 1) L := lx_in (j := 1) (by decide) hi hL
  have hi2 : vp_in (nI i + 2) L := lx_in (j := 2) (by decide) hi hL
  have hi3 : vp_in (nI i + 3) L := lx_in (j := 3) (by decide) hi hL
  have hi4 : vp_in (nI i + 4) L := lx_in (j := 4) (by decide) hi hL
  have hi5 : vp_in (nI i + 5) L := lx_in (j := 5) (by decide) hi hL
  obtain ⟨r, τ1, τ2, h1, h2, hI2⟩ := hO.2.2.2.2.2.2.2.1 (xs (Int32.toNatClampNeg (nI i + 1))) (xs (Int32.toNatClampNeg (nI i + 2))) (xs (Int32.toNatClampNeg (nI i + 3))) (xs (Int32.toNatClampNeg (nI i + 4)))  τ hI
  refine lv_aload_n hx hb dL_law_497 rfl (lv_at hl 1 rfl) ?_
  refine lv_aload_n hx hb dL_law_498 rfl (lv_at hl 0 rfl) ?_
  refine lv_iload_n hx hb dL_law_499 rfl (lv_at hl 3 rfl) ?_
  refine lv_iconst (v := 1) hx hb dL_law_500 (by decide) ?_
  refine lv_iadd hx hb dL_law_501 ?_
  refine va_sld hx hb hX hbl hbA hH.2 hi1 dL_law_502 ?_
  refine lv_aload_n hx hb dL_law_503 rfl (lv_at hl 0 rfl) ?_
  refine lv_iload_n hx hb dL_law_504 rfl (lv_at hl 3 rfl) ?_
  refine lv_iconst (v := 2) hx hb dL_law_505 (by decide) ?_
  refine lv_iadd hx hb dL_law_506 ?_
  refine va_sld hx hb hX hbl hbA hH.2 hi2 dL_law_507 ?_
  refine lv_aload_n hx hb dL_law_508 rfl (lv_at hl 0 rfl) ?_
  refine lv_iload_n hx hb dL_law_509 rfl (lv_at hl 3 rfl) ?_
  refine lv_iconst (v := 3) hx hb dL_law_510 (by decide) ?_
  refine lv_iadd hx hb dL_law_511 ?_
  refine va_sld hx hb hX hbl hbA hH.2 hi3 dL_law_512 ?_
  refine lv_aload_n hx hb dL_law_513 rfl (lv_at hl 0 rfl) ?_
  refine lv_iload_n hx hb dL_law_514 rfl (lv_at hl 3 rfl) ?_
  refine lv_iconst (v := 4) hx hb dL_law_515 (by decide) ?_
  refine lv_iadd hx hb dL_law_516 ?_
  refine va_sld hx hb hX hbl hbA hH.2 hi4 dL_law_517 ?_
  refine c_Vi X hH (k := 0) (n := 4) (As := [.int _, .int _, .int _, .int _]) (rest := []) (c_WP_needed_0 l G (N := N) h1) (by decide) rfl rfl tw_265 tw_262 tw_263 tw_264 tw_1 (by decide +kernel) ⟨by decide, by decide⟩ rfl hl.1 rfl (Nat.le_of_ble_eq_true rfl) ⟨by decide, by decide⟩ dL_law_518 (fun H locs hH => ?_)
  refine lv_aload_n hx hb dL_law_521 rfl (lv_at hl 2 rfl) ?_
  refine lv_aload_n hx hb dL_law_522 rfl (lv_at hl 0 rfl) ?_
  refine lv_iload_n hx hb dL_law_523 rfl (lv_at hl 3 rfl) ?_
  refine lv_iconst (v := 1) hx hb dL_law_524 (by decide) ?_
  refine lv_iadd hx hb dL_law_525 ?_
  refine va_sld hx hb hX hbl hbA hH.2 hi1 dL_law_526 ?_
  refine lv_aload_n hx hb dL_law_527 rfl (lv_at hl 0 rfl) ?_
  refine lv_iload_n hx hb dL_law_528 rfl (lv_at hl 3 rfl) ?_
  refine lv_iconst (v := 2) hx hb dL_law_529 (by decide) ?_
  refine lv_iadd hx hb dL_law_530 ?_
  refine va_sld hx hb hX hbl hbA hH.2 hi2 dL_law_531 ?_
  refine lv_aload_n hx hb dL_law_532 rfl (lv_at hl 0 rfl) ?_
  refine lv_iload_n hx hb dL_law_533 rfl (lv_at hl 3 rfl) ?_
  refine lv_iconst (v := 3) hx hb dL_law_534 (by decide) ?_
  refine lv_iadd hx hb dL_law_535 ?_
  refine va_sld hx hb hX hbl hbA hH.2 hi3 dL_law_536 ?_
  refine lv_aload_n hx hb dL_law_537 rfl (lv_at hl 0 rfl) ?_
  refine lv_iload_n hx hb dL_law_538 rfl (lv_at hl 3 rfl) ?_
  refine lv_iconst (v := 4) hx hb dL_law_539 (by decide) ?_
  refine lv_iadd hx hb dL_law_540 ?_
  refine va_sld hx hb hX hbl hbA hH.2 hi4 dL_law_541 ?_
  refine c_Vi X hH (k := 42) (n := 4) (As := [.int _, .int _, .int _, .int _]) (rest := [.int _]) (c_Mo_needed_42 l G (N := N) h2) (by decide) rfl rfl tw_648 tw_645 tw_646 tw_647 tw_13 (by decide +kernel) ⟨by decide, by decide⟩ rfl hl.1 rfl (Nat.le_of_ble_eq_true rfl) ⟨by decide, by decide⟩ dL_law_542 (fun H locs hH => ?_)
  refine lv_icmp_eq (tgt := 876) hx hb dL_law_545 (by decide) (fun c1 => ?_) (fun c1 => ?_)
  · exact hk τ2 _ _ _ hI2 hH hl
  · exact absurd rfl c1
set_option maxHeartbeats 4000000 in
set_option maxRecDepth 100000 in
theorem lc_plan {l : Launch} {G : GT} {N : Nat} {I : Hp → Prop} {p : Program} {e : Env} {s : State} {m : MethodId} {below : List Frame} {meth : Method} {c : Code} {b L : Nat} {xs : Nat → Int32} (hO : Ops N I) (X : Cx G p s m #[Value.ref b] meth c cL_law 4 RL (some .boolean)) (hZ : zG G = s.heap.size) (hX : va_X b L xs s s.heap) (hbl : b < s.heap.size) (hL : L ≤ 3072) {i : Nat} (hi : i + 6 ≤ L) {τ : Hp} {H : Heap} {locs : List Loc} {ls : Array Slot} (hI : I τ) (hH : Hs G τ s H locs) (hl : lv_has ls 4 [(0, .ref b), (1, .ref (aG G 0)), (2, .ref (aG G 42)), (3, .int (nI i))]) (hk : ∀ (τ : Hp) (H : Heap) (locs : List Loc) (ls : Array Slot), I τ → Hs G τ s H locs → lv_has ls 4 [(0, .ref b), (1, .ref (aG G 0)), (2, .ref (aG G 42)), (3, .int (nI i))] → W p l e room_1 s m #[Value.ref b] below meth c H locs 66 7035 (lw_Z below #[Value.ref b] s) (F0 m 876 ls [])) : W p l e room_1 s m #[Value.ref b] below meth c H locs 66 7035 (lw_Z below #[Value.ref b] s) (F0 m 550 ls []) := by
  have hx := X.hx
  have hb := X.hb
  have hbA : ¬ Fr G b := by show ¬ zG G ≤ b; rw [hZ]; omega
  have hi1 : vp_in (nI i + 1) L := lx_in (j := 1) (by decide) hi hL
  have hi2 : vp_in (nI i + 2) L := lx_in (j := 2) (by decide) hi hL
  have hi3 : vp_in (nI i + 3) L := lx_in (j := 3) (by decide) hi hL
  have hi4 : vp_in (nI i + 4) L := lx_in (j := 4) (by decide) hi hL
  have hi5 : vp_in (nI i + 5) L := lx_in (j := 5) (by decide) hi hL
  obtain ⟨r, τ1, τ2, h1, h2, hI2⟩ := hO.2.2.2.2.2.2.2.2.1 (xs (Int32.toNatClampNeg (nI i + 1)))  τ hI
  refine lv_aload_n hx hb dL_law_550 rfl (lv_at hl 1 rfl) ?_
  refine lv_aload_n hx hb dL_law_551 rfl (lv_at hl 0 rfl) ?_
  refine lv_iload_n hx hb dL_law_552 rfl (lv_at hl 3 rfl) ?_
  refine lv_iconst (v := 1) hx hb dL_law_553 (by decide) ?_
  refine lv_iadd hx hb dL_law_554 ?_
  refine va_sld hx hb hX hbl hbA hH.2 hi1 dL_law_555 ?_
  refine c_Vi X hH (k := 0) (n := 1) (As := [.int _]) (rest := []) (c_WP_plan_0 l G (N := N) h1) (by decide) rfl rfl tw_273 tw_270 tw_271 tw_272 tw_1 (by decide +kernel) ⟨by decide, by decide⟩ rfl hl.1 rfl (Nat.le_of_ble_eq_true rfl) ⟨by decide, by decide⟩ dL_law_556 (fun H locs hH => ?_)
  refine lv_aload_n hx hb dL_law_559 rfl (lv_at hl 2 rfl) ?_
  refine lv_aload_n hx hb dL_law_560 rfl (lv_at hl 0 rfl) ?_
  refine lv_iload_n hx hb dL_law_561 rfl (lv_at hl 3 rfl) ?_
  refine lv_iconst (v := 1) hx hb dL_law_562 (by decide) ?_
  refine lv_iadd hx hb dL_law_563 ?_
  refine va_sld hx hb hX hbl hbA hH.2 hi1 dL_law_564 ?_
  refine c_Vi X hH (k := 42) (n := 1) (As := [.int _]) (rest := [.int _]) (c_Mo_plan_42 l G (N := N) h2) (by decide) rfl rfl tw_655 tw_652 tw_653 tw_654 tw_13 (by decide +kernel) ⟨by decide, by decide⟩ rfl hl.1 rfl (Nat.le_of_ble_eq_true rfl) ⟨by decide, by decide⟩ dL_law_565 (fun H locs hH => ?_)
  refine lv_icmp_eq (tgt := 876) hx hb dL_law_568 (by decide) (fun c1 => ?_) (fun c1 => ?_)
  · exact hk τ2 _ _ _ hI2 hH hl
  · exact absurd rfl c1
set_option maxHeartbeats 4000000 in
set_option maxRecDepth 100000 in
theorem lc_room {l : Launch} {G : GT} {N : Nat} {I : Hp → Prop} {p : Program} {e : Env} {s : State} {m : MethodId} {below : List Frame} {meth : Method} {c : Code} {b L : Nat} {xs : Nat → Int32} (hO : Ops N I) (X : Cx G p s m #[Value.ref b] meth c cL_law 4 RL (some .boolean)) (hZ : zG G = s.heap.size) (hX : va_X b L xs s s.heap) (hbl : b < s.heap.size) (hL : L ≤ 3072) {i : Nat} (hi : i + 6 ≤ L) {τ : Hp} {H : Heap} {locs : List Loc} {ls : Array Slot} (hI : I τ) (hH : Hs G τ s H locs) (hl : lv_has ls 4 [(0, .ref b), (1, .ref (aG G 0)), (2, .ref (aG G 42)), (3, .int (nI i))]) (hk : ∀ (τ : Hp) (H : Heap) (locs : List Loc) (ls : Array Slot), I τ → Hs G τ s H locs → lv_has ls 4 [(0, .ref b), (1, .ref (aG G 0)), (2, .ref (aG G 42)), (3, .int (nI i))] → W p l e room_1 s m #[Value.ref b] below meth c H locs 66 7035 (lw_Z below #[Value.ref b] s) (F0 m 876 ls [])) : W p l e room_1 s m #[Value.ref b] below meth c H locs 66 7035 (lw_Z below #[Value.ref b] s) (F0 m 573 ls []) := by
  have hx := X.hx
  have hb := X.hb
  have hbA : ¬ Fr G b := by show ¬ zG G ≤ b; rw [hZ]; omega
  have hi1 : vp_in (nI i + 1) L := lx_in (j := 1) (by decide) hi hL
  have hi2 : vp_in (nI i + 2) L := lx_in (j := 2) (by decide) hi hL
  have hi3 : vp_in (nI i + 3) L := lx_in (j := 3) (by decide) hi hL
  have hi4 : vp_in (nI i + 4) L := lx_in (j := 4) (by decide) hi hL
  have hi5 : vp_in (nI i + 5) L := lx_in (j := 5) (by decide) hi hL
  obtain ⟨r, τ1, τ2, h1, h2, hI2⟩ := hO.2.2.2.2.2.2.2.2.2.1 (xs (Int32.toNatClampNeg (nI i + 1)))  τ hI
  refine lv_aload_n hx hb dL_law_573 rfl (lv_at hl 1 rfl) ?_
  refine lv_aload_n hx hb dL_law_574 rfl (lv_at hl 0 rfl) ?_
  refine lv_iload_n hx hb dL_law_575 rfl (lv_at hl 3 rfl) ?_
  refine lv_iconst (v := 1) hx hb dL_law_576 (by decide) ?_
  refine lv_iadd hx hb dL_law_577 ?_
  refine va_sld hx hb hX hbl hbA hH.2 hi1 dL_law_578 ?_
  refine c_Vi X hH (k := 0) (n := 1) (As := [.int _]) (rest := []) (c_WP_room_0 l G (N := N) h1) (by decide) rfl rfl tw_368 tw_365 tw_366 tw_367 tw_1 (by decide +kernel) ⟨by decide, by decide⟩ rfl hl.1 rfl (Nat.le_of_ble_eq_true rfl) ⟨by decide, by decide⟩ dL_law_579 (fun H locs hH => ?_)
  refine lv_aload_n hx hb dL_law_582 rfl (lv_at hl 2 rfl) ?_
  refine lv_aload_n hx hb dL_law_583 rfl (lv_at hl 0 rfl) ?_
  refine lv_iload_n hx hb dL_law_584 rfl (lv_at hl 3 rfl) ?_
  refine lv_iconst (v := 1) hx hb dL_law_585 (by decide) ?_
  refine lv_iadd hx hb dL_law_586 ?_
  refine va_sld hx hb hX hbl hbA hH.2 hi1 dL_law_587 ?_
  refine c_Vi X hH (k := 42) (n := 1) (As := [.int _]) (rest := [.int _]) (c_Mo_room_42 l G (N := N) h2) (by decide) rfl rfl tw_681 tw_678 tw_679 tw_680 tw_13 (by decide +kernel) ⟨by decide, by decide⟩ rfl hl.1 rfl (Nat.le_of_ble_eq_true rfl) ⟨by decide, by decide⟩ dL_law_588 (fun H locs hH => ?_)
  refine lv_icmp_eq (tgt := 876) hx hb dL_law_591 (by decide) (fun c1 => ?_) (fun c1 => ?_)
  · exact hk τ2 _ _ _ hI2 hH hl
  · exact absurd rfl c1
set_option maxHeartbeats 4000000 in
set_option maxRecDepth 100000 in
theorem lc_rule {l : Launch} {G : GT} {N : Nat} {I : Hp → Prop} {p : Program} {e : Env} {s : State} {m : MethodId} {below : List Frame} {meth : Method} {c : Code} {b L : Nat} {xs : Nat → Int32} (hO : Ops N I) (X : Cx G p s m #[Value.ref b] meth c cL_law 4 RL (some .boolean)) (hZ : zG G = s.heap.size) (hX : va_X b L xs s s.heap) (hbl : b < s.heap.size) (hL : L ≤ 3072) {i : Nat} (hi : i + 6 ≤ L) {τ : Hp} {H : Heap} {locs : List Loc} {ls : Array Slot} (hI : I τ) (hH : Hs G τ s H locs) (hl : lv_has ls 4 [(0, .ref b), (1, .ref (aG G 0)), (2, .ref (aG G 42)), (3, .int (nI i))]) (hk : ∀ (τ : Hp) (H : Heap) (locs : List Loc) (ls : Array Slot), I τ → Hs G τ s H locs → lv_has ls 4 [(0, .ref b), (1, .ref (aG G 0)), (2, .ref (aG G 42)), (3, .int (nI i))] → W p l e room_1 s m #[Value.ref b] below meth c H locs 66 7035 (lw_Z below #[Value.ref b] s) (F0 m 876 ls [])) : W p l e room_1 s m #[Value.ref b] below meth c H locs 66 7035 (lw_Z below #[Value.ref b] s) (F0 m 596 ls []) := by
  have hx := X.hx
  have hb := X.hb
  have hbA : ¬ Fr G b := by show ¬ zG G ≤ b; rw [hZ]; omega
  have hi1 : vp_in (nI i + 1) L := lx_in (j := 1) (by decide) hi hL
  have hi2 : vp_in (nI i + 2) L := lx_in (j := 2) (by decide) hi hL
  have hi3 : vp_in (nI i + 3) L := lx_in (j := 3) (by decide) hi hL
  have hi4 : vp_in (nI i + 4) L := lx_in (j := 4) (by decide) hi hL
  have hi5 : vp_in (nI i + 5) L := lx_in (j := 5) (by decide) hi hL
  obtain ⟨r, τ1, τ2, h1, h2, hI2⟩ := hO.2.2.2.2.2.2.2.2.2.2.1 (xs (Int32.toNatClampNeg (nI i + 1))) (xs (Int32.toNatClampNeg (nI i + 2)))  τ hI
  refine lv_aload_n hx hb dL_law_596 rfl (lv_at hl 1 rfl) ?_
  refine lv_aload_n hx hb dL_law_597 rfl (lv_at hl 0 rfl) ?_
  refine lv_iload_n hx hb dL_law_598 rfl (lv_at hl 3 rfl) ?_
  refine lv_iconst (v := 1) hx hb dL_law_599 (by decide) ?_
  refine lv_iadd hx hb dL_law_600 ?_
  refine va_sld hx hb hX hbl hbA hH.2 hi1 dL_law_601 ?_
  refine lv_aload_n hx hb dL_law_602 rfl (lv_at hl 0 rfl) ?_
  refine lv_iload_n hx hb dL_law_603 rfl (lv_at hl 3 rfl) ?_
  refine lv_iconst (v := 2) hx hb dL_law_604 (by decide) ?_
  refine lv_iadd hx hb dL_law_605 ?_
  refine va_sld hx hb hX hbl hbA hH.2 hi2 dL_law_606 ?_
  refine c_Vi X hH (k := 0) (n := 2) (As := [.int _, .int _]) (rest := []) (c_WP_rule_0 l G (N := N) h1) (by decide) rfl rfl tw_373 tw_370 tw_371 tw_372 tw_1 (by decide +kernel) ⟨by decide, by decide⟩ rfl hl.1 rfl (Nat.le_of_ble_eq_true rfl) ⟨by decide, by decide⟩ dL_law_607 (fun H locs hH => ?_)
  refine lv_aload_n hx hb dL_law_610 rfl (lv_at hl 2 rfl) ?_
  refine lv_aload_n hx hb dL_law_611 rfl (lv_at hl 0 rfl) ?_
  refine lv_iload_n hx hb dL_law_612 rfl (lv_at hl 3 rfl) ?_
  refine lv_iconst (v := 1) hx hb dL_law_613 (by decide) ?_
  refine lv_iadd hx hb dL_law_614 ?_
  refine va_sld hx hb hX hbl hbA hH.2 hi1 dL_law_615 ?_
  refine lv_aload_n hx hb dL_law_616 rfl (lv_at hl 0 rfl) ?_
  refine lv_iload_n hx hb dL_law_617 rfl (lv_at hl 3 rfl) ?_
  refine lv_iconst (v := 2) hx hb dL_law_618 (by decide) ?_
  refine lv_iadd hx hb dL_law_619 ?_
  refine va_sld hx hb hX hbl hbA hH.2 hi2 dL_law_620 ?_
  refine c_Vi X hH (k := 42) (n := 2) (As := [.int _, .int _]) (rest := [.int _]) (c_Mo_rule_42 l G (N := N) h2) (by decide) rfl rfl tw_685 tw_682 tw_683 tw_684 tw_13 (by decide +kernel) ⟨by decide, by decide⟩ rfl hl.1 rfl (Nat.le_of_ble_eq_true rfl) ⟨by decide, by decide⟩ dL_law_621 (fun H locs hH => ?_)
  refine lv_icmp_eq (tgt := 876) hx hb dL_law_624 (by decide) (fun c1 => ?_) (fun c1 => ?_)
  · exact hk τ2 _ _ _ hI2 hH hl
  · exact absurd rfl c1
set_option maxHeartbeats 4000000 in
set_option maxRecDepth 100000 in
theorem lc_lets {l : Launch} {G : GT} {N : Nat} {I : Hp → Prop} {p : Program} {e : Env} {s : State} {m : MethodId} {below : List Frame} {meth : Method} {c : Code} {b L : Nat} {xs : Nat → Int32} (hO : Ops N I) (X : Cx G p s m #[Value.ref b] meth c cL_law 4 RL (some .boolean)) (hZ : zG G = s.heap.size) (hX : va_X b L xs s s.heap) (hbl : b < s.heap.size) (hL : L ≤ 3072) {i : Nat} (hi : i + 6 ≤ L) {τ : Hp} {H : Heap} {locs : List Loc} {ls : Array Slot} (hI : I τ) (hH : Hs G τ s H locs) (hl : lv_has ls 4 [(0, .ref b), (1, .ref (aG G 0)), (2, .ref (aG G 42)), (3, .int (nI i))]) (hk : ∀ (τ : Hp) (H : Heap) (locs : List Loc) (ls : Array Slot), I τ → Hs G τ s H locs → lv_has ls 4 [(0, .ref b), (1, .ref (aG G 0)), (2, .ref (aG G 42)), (3, .int (nI i))] → W p l e room_1 s m #[Value.ref b] below meth c H locs 66 7035 (lw_Z below #[Value.ref b] s) (F0 m 876 ls [])) : W p l e room_1 s m #[Value.ref b] below meth c H locs 66 7035 (lw_Z below #[Value.ref b] s) (F0 m 629 ls []) := by
  have hx := X.hx
  have hb := X.hb
  have hbA : ¬ Fr G b := by show ¬ zG G ≤ b; rw [hZ]; omega
  have hi1 : vp_in (nI i + 1) L := lx_in (j := 1) (by decide) hi hL
  have hi2 : vp_in (nI i + 2) L := lx_in (j := 2) (by decide) hi hL
  have hi3 : vp_in (nI i + 3) L := lx_in (j := 3) (by decide) hi hL
  have hi4 : vp_in (nI i + 4) L := lx_in (j := 4) (by decide) hi hL
  have hi5 : vp_in (nI i + 5) L := lx_in (j := 5) (by decide) hi hL
  obtain ⟨r, τ1, τ2, h1, h2, hI2⟩ := hO.2.2.2.2.2.2.2.2.2.2.2.1 (xs (Int32.toNatClampNeg (nI i + 1))) (xs (Int32.toNatClampNeg (nI i + 2))) (xs (Int32.toNatClampNeg (nI i + 3)))  τ hI
  refine lv_aload_n hx hb dL_law_629 rfl (lv_at hl 1 rfl) ?_
  refine lv_aload_n hx hb dL_law_630 rfl (lv_at hl 0 rfl) ?_
  refine lv_iload_n hx hb dL_law_631 rfl (lv_at hl 3 rfl) ?_
  refine lv_iconst (v := 1) hx hb dL_law_632 (by decide) ?_
  refine lv_iadd hx hb dL_law_633 ?_
  refine va_sld hx hb hX hbl hbA hH.2 hi1 dL_law_634 ?_
  refine lv_aload_n hx hb dL_law_635 rfl (lv_at hl 0 rfl) ?_
  refine lv_iload_n hx hb dL_law_636 rfl (lv_at hl 3 rfl) ?_
  refine lv_iconst (v := 2) hx hb dL_law_637 (by decide) ?_
  refine lv_iadd hx hb dL_law_638 ?_
  refine va_sld hx hb hX hbl hbA hH.2 hi2 dL_law_639 ?_
  refine lv_aload_n hx hb dL_law_640 rfl (lv_at hl 0 rfl) ?_
  refine lv_iload_n hx hb dL_law_641 rfl (lv_at hl 3 rfl) ?_
  refine lv_iconst (v := 3) hx hb dL_law_642 (by decide) ?_
  refine lv_iadd hx hb dL_law_643 ?_
  refine va_sld hx hb hX hbl hbA hH.2 hi3 dL_law_644 ?_
  refine c_Vi X hH (k := 0) (n := 3) (As := [.int _, .int _, .int _]) (rest := []) (c_WP_lets_0 l G (N := N) h1) (by decide) rfl rfl tw_399 tw_396 tw_397 tw_398 tw_1 (by decide +kernel) ⟨by decide, by decide⟩ rfl hl.1 rfl (Nat.le_of_ble_eq_true rfl) ⟨by decide, by decide⟩ dL_law_645 (fun H locs hH => ?_)
  refine lv_aload_n hx hb dL_law_648 rfl (lv_at hl 2 rfl) ?_
  refine lv_aload_n hx hb dL_law_649 rfl (lv_at hl 0 rfl) ?_
  refine lv_iload_n hx hb dL_law_650 rfl (lv_at hl 3 rfl) ?_
  refine lv_iconst (v := 1) hx hb dL_law_651 (by decide) ?_
  refine lv_iadd hx hb dL_law_652 ?_
  refine va_sld hx hb hX hbl hbA hH.2 hi1 dL_law_653 ?_
  refine lv_aload_n hx hb dL_law_654 rfl (lv_at hl 0 rfl) ?_
  refine lv_iload_n hx hb dL_law_655 rfl (lv_at hl 3 rfl) ?_
  refine lv_iconst (v := 2) hx hb dL_law_656 (by decide) ?_
  refine lv_iadd hx hb dL_law_657 ?_
  refine va_sld hx hb hX hbl hbA hH.2 hi2 dL_law_658 ?_
  refine lv_aload_n hx hb dL_law_659 rfl (lv_at hl 0 rfl) ?_
  refine lv_iload_n hx hb dL_law_660 rfl (lv_at hl 3 rfl) ?_
  refine lv_iconst (v := 3) hx hb dL_law_661 (by decide) ?_
  refine lv_iadd hx hb dL_law_662 ?_
  refine va_sld hx hb hX hbl hbA hH.2 hi3 dL_law_663 ?_
  refine c_Vi X hH (k := 42) (n := 3) (As := [.int _, .int _, .int _]) (rest := [.int _]) (c_Mo_lets_42 l G (N := N) h2) (by decide) rfl rfl tw_698 tw_695 tw_696 tw_697 tw_13 (by decide +kernel) ⟨by decide, by decide⟩ rfl hl.1 rfl (Nat.le_of_ble_eq_true rfl) ⟨by decide, by decide⟩ dL_law_664 (fun H locs hH => ?_)
  refine lv_icmp_eq (tgt := 876) hx hb dL_law_667 (by decide) (fun c1 => ?_) (fun c1 => ?_)
  · exact hk τ2 _ _ _ hI2 hH hl
  · exact absurd rfl c1
set_option maxHeartbeats 4000000 in
set_option maxRecDepth 100000 in
theorem lc_reach {l : Launch} {G : GT} {N : Nat} {I : Hp → Prop} {p : Program} {e : Env} {s : State} {m : MethodId} {below : List Frame} {meth : Method} {c : Code} {b L : Nat} {xs : Nat → Int32} (hO : Ops N I) (X : Cx G p s m #[Value.ref b] meth c cL_law 4 RL (some .boolean)) (hZ : zG G = s.heap.size) (hX : va_X b L xs s s.heap) (hbl : b < s.heap.size) (hL : L ≤ 3072) {i : Nat} (hi : i + 6 ≤ L) {τ : Hp} {H : Heap} {locs : List Loc} {ls : Array Slot} (hI : I τ) (hH : Hs G τ s H locs) (hl : lv_has ls 4 [(0, .ref b), (1, .ref (aG G 0)), (2, .ref (aG G 42)), (3, .int (nI i))]) (hk : ∀ (τ : Hp) (H : Heap) (locs : List Loc) (ls : Array Slot), I τ → Hs G τ s H locs → lv_has ls 4 [(0, .ref b), (1, .ref (aG G 0)), (2, .ref (aG G 42)), (3, .int (nI i))] → W p l e room_1 s m #[Value.ref b] below meth c H locs 66 7035 (lw_Z below #[Value.ref b] s) (F0 m 876 ls [])) : W p l e room_1 s m #[Value.ref b] below meth c H locs 66 7035 (lw_Z below #[Value.ref b] s) (F0 m 672 ls []) := by
  have hx := X.hx
  have hb := X.hb
  have hbA : ¬ Fr G b := by show ¬ zG G ≤ b; rw [hZ]; omega
  have hi1 : vp_in (nI i + 1) L := lx_in (j := 1) (by decide) hi hL
  have hi2 : vp_in (nI i + 2) L := lx_in (j := 2) (by decide) hi hL
  have hi3 : vp_in (nI i + 3) L := lx_in (j := 3) (by decide) hi hL
  have hi4 : vp_in (nI i + 4) L := lx_in (j := 4) (by decide) hi hL
  have hi5 : vp_in (nI i + 5) L := lx_in (j := 5) (by decide) hi hL
  obtain ⟨r, τ1, τ2, h1, h2, hI2⟩ := hO.2.2.2.2.2.2.2.2.2.2.2.2.1 (xs (Int32.toNatClampNeg (nI i + 1)))  τ hI
  refine lv_aload_n hx hb dL_law_672 rfl (lv_at hl 1 rfl) ?_
  refine lv_aload_n hx hb dL_law_673 rfl (lv_at hl 0 rfl) ?_
  refine lv_iload_n hx hb dL_law_674 rfl (lv_at hl 3 rfl) ?_
  refine lv_iconst (v := 1) hx hb dL_law_675 (by decide) ?_
  refine lv_iadd hx hb dL_law_676 ?_
  refine va_sld hx hb hX hbl hbA hH.2 hi1 dL_law_677 ?_
  refine c_Vi X hH (k := 0) (n := 1) (As := [.int _]) (rest := []) (c_WP_reach_0 l G (N := N) h1) (by decide) rfl rfl tw_416 tw_413 tw_414 tw_415 tw_1 (by decide +kernel) ⟨by decide, by decide⟩ rfl hl.1 rfl (Nat.le_of_ble_eq_true rfl) ⟨by decide, by decide⟩ dL_law_678 (fun H locs hH => ?_)
  refine lv_aload_n hx hb dL_law_681 rfl (lv_at hl 2 rfl) ?_
  refine lv_aload_n hx hb dL_law_682 rfl (lv_at hl 0 rfl) ?_
  refine lv_iload_n hx hb dL_law_683 rfl (lv_at hl 3 rfl) ?_
  refine lv_iconst (v := 1) hx hb dL_law_684 (by decide) ?_
  refine lv_iadd hx hb dL_law_685 ?_
  refine va_sld hx hb hX hbl hbA hH.2 hi1 dL_law_686 ?_
  refine c_Vi X hH (k := 42) (n := 1) (As := [.int _]) (rest := [.int _]) (c_Mo_reach_42 l G (N := N) h2) (by decide) rfl rfl tw_705 tw_702 tw_703 tw_704 tw_13 (by decide +kernel) ⟨by decide, by decide⟩ rfl hl.1 rfl (Nat.le_of_ble_eq_true rfl) ⟨by decide, by decide⟩ dL_law_687 (fun H locs hH => ?_)
  refine lv_icmp_eq (tgt := 876) hx hb dL_law_690 (by decide) (fun c1 => ?_) (fun c1 => ?_)
  · exact hk τ2 _ _ _ hI2 hH hl
  · exact absurd rfl c1
set_option maxHeartbeats 4000000 in
set_option maxRecDepth 100000 in
theorem lc_spread {l : Launch} {G : GT} {N : Nat} {I : Hp → Prop} {p : Program} {e : Env} {s : State} {m : MethodId} {below : List Frame} {meth : Method} {c : Code} {b L : Nat} {xs : Nat → Int32} (hO : Ops N I) (X : Cx G p s m #[Value.ref b] meth c cL_law 4 RL (some .boolean)) (hZ : zG G = s.heap.size) (hX : va_X b L xs s s.heap) (hbl : b < s.heap.size) (hL : L ≤ 3072) {i : Nat} (hi : i + 6 ≤ L) {τ : Hp} {H : Heap} {locs : List Loc} {ls : Array Slot} (hI : I τ) (hH : Hs G τ s H locs) (hl : lv_has ls 4 [(0, .ref b), (1, .ref (aG G 0)), (2, .ref (aG G 42)), (3, .int (nI i))]) (hk : ∀ (τ : Hp) (H : Heap) (locs : List Loc) (ls : Array Slot), I τ → Hs G τ s H locs → lv_has ls 4 [(0, .ref b), (1, .ref (aG G 0)), (2, .ref (aG G 42)), (3, .int (nI i))] → W p l e room_1 s m #[Value.ref b] below meth c H locs 66 7035 (lw_Z below #[Value.ref b] s) (F0 m 876 ls [])) : W p l e room_1 s m #[Value.ref b] below meth c H locs 66 7035 (lw_Z below #[Value.ref b] s) (F0 m 695 ls []) := by
  have hx := X.hx
  have hb := X.hb
  have hbA : ¬ Fr G b := by show ¬ zG G ≤ b; rw [hZ]; omega
  have hi1 : vp_in (nI i + 1) L := lx_in (j := 1) (by decide) hi hL
  have hi2 : vp_in (nI i + 2) L := lx_in (j := 2) (by decide) hi hL
  have hi3 : vp_in (nI i + 3) L := lx_in (j := 3) (by decide) hi hL
  have hi4 : vp_in (nI i + 4) L := lx_in (j := 4) (by decide) hi hL
  have hi5 : vp_in (nI i + 5) L := lx_in (j := 5) (by decide) hi hL
  obtain ⟨r, τ1, τ2, h1, h2, hI2⟩ := hO.2.2.2.2.2.2.2.2.2.2.2.2.2.1 (xs (Int32.toNatClampNeg (nI i + 1)))  τ hI
  refine lv_aload_n hx hb dL_law_695 rfl (lv_at hl 1 rfl) ?_
  refine lv_aload_n hx hb dL_law_696 rfl (lv_at hl 0 rfl) ?_
  refine lv_iload_n hx hb dL_law_697 rfl (lv_at hl 3 rfl) ?_
  refine lv_iconst (v := 1) hx hb dL_law_698 (by decide) ?_
  refine lv_iadd hx hb dL_law_699 ?_
  refine va_sld hx hb hX hbl hbA hH.2 hi1 dL_law_700 ?_
  refine c_Vi X hH (k := 0) (n := 1) (As := [.int _]) (rest := []) (c_WP_spread_0 l G (N := N) h1) (by decide) rfl rfl tw_445 tw_442 tw_443 tw_444 tw_1 (by decide +kernel) ⟨by decide, by decide⟩ rfl hl.1 rfl (Nat.le_of_ble_eq_true rfl) ⟨by decide, by decide⟩ dL_law_701 (fun H locs hH => ?_)
  refine lv_aload_n hx hb dL_law_704 rfl (lv_at hl 2 rfl) ?_
  refine lv_aload_n hx hb dL_law_705 rfl (lv_at hl 0 rfl) ?_
  refine lv_iload_n hx hb dL_law_706 rfl (lv_at hl 3 rfl) ?_
  refine lv_iconst (v := 1) hx hb dL_law_707 (by decide) ?_
  refine lv_iadd hx hb dL_law_708 ?_
  refine va_sld hx hb hX hbl hbA hH.2 hi1 dL_law_709 ?_
  refine c_Vi X hH (k := 42) (n := 1) (As := [.int _]) (rest := [.int _]) (c_Mo_spread_42 l G (N := N) h2) (by decide) rfl rfl tw_715 tw_712 tw_713 tw_714 tw_13 (by decide +kernel) ⟨by decide, by decide⟩ rfl hl.1 rfl (Nat.le_of_ble_eq_true rfl) ⟨by decide, by decide⟩ dL_law_710 (fun H locs hH => ?_)
  refine lv_icmp_eq (tgt := 876) hx hb dL_law_713 (by decide) (fun c1 => ?_) (fun c1 => ?_)
  · exact hk τ2 _ _ _ hI2 hH hl
  · exact absurd rfl c1
set_option maxHeartbeats 4000000 in
set_option maxRecDepth 100000 in
theorem lc_shut {l : Launch} {G : GT} {N : Nat} {I : Hp → Prop} {p : Program} {e : Env} {s : State} {m : MethodId} {below : List Frame} {meth : Method} {c : Code} {b L : Nat} {xs : Nat → Int32} (hO : Ops N I) (X : Cx G p s m #[Value.ref b] meth c cL_law 4 RL (some .boolean)) (hZ : zG G = s.heap.size) (hX : va_X b L xs s s.heap) (hbl : b < s.heap.size) (hL : L ≤ 3072) {i : Nat} (hi : i + 6 ≤ L) {τ : Hp} {H : Heap} {locs : List Loc} {ls : Array Slot} (hI : I τ) (hH : Hs G τ s H locs) (hl : lv_has ls 4 [(0, .ref b), (1, .ref (aG G 0)), (2, .ref (aG G 42)), (3, .int (nI i))]) (hk : ∀ (τ : Hp) (H : Heap) (locs : List Loc) (ls : Array Slot), I τ → Hs G τ s H locs → lv_has ls 4 [(0, .ref b), (1, .ref (aG G 0)), (2, .ref (aG G 42)), (3, .int (nI i))] → W p l e room_1 s m #[Value.ref b] below meth c H locs 66 7035 (lw_Z below #[Value.ref b] s) (F0 m 876 ls [])) : W p l e room_1 s m #[Value.ref b] below meth c H locs 66 7035 (lw_Z below #[Value.ref b] s) (F0 m 718 ls []) := by
  have hx := X.hx
  have hb := X.hb
  have hbA : ¬ Fr G b := by show ¬ zG G ≤ b; rw [hZ]; omega
  have hi1 : vp_in (nI i + 1) L := lx_in (j := 1) (by decide) hi hL
  have hi2 : vp_in (nI i + 2) L := lx_in (j := 2) (by decide) hi hL
  have hi3 : vp_in (nI i + 3) L := lx_in (j := 3) (by decide) hi hL
  have hi4 : vp_in (nI i + 4) L := lx_in (j := 4) (by decide) hi hL
  have hi5 : vp_in (nI i + 5) L := lx_in (j := 5) (by decide) hi hL
  obtain ⟨r, τ1, τ2, h1, h2, hI2⟩ := hO.2.2.2.2.2.2.2.2.2.2.2.2.2.2.1 (xs (Int32.toNatClampNeg (nI i + 1)))  τ hI
  refine lv_aload_n hx hb dL_law_718 rfl (lv_at hl 1 rfl) ?_
  refine lv_aload_n hx hb dL_law_719 rfl (lv_at hl 0 rfl) ?_
  refine lv_iload_n hx hb dL_law_720 rfl (lv_at hl 3 rfl) ?_
  refine lv_iconst (v := 1) hx hb dL_law_721 (by decide) ?_
  refine lv_iadd hx hb dL_law_722 ?_
  refine va_sld hx hb hX hbl hbA hH.2 hi1 dL_law_723 ?_
  refine c_Vi X hH (k := 0) (n := 1) (As := [.int _]) (rest := []) (c_WP_shut_0 l G (N := N) h1) (by decide) rfl rfl tw_459 tw_456 tw_457 tw_458 tw_1 (by decide +kernel) ⟨by decide, by decide⟩ rfl hl.1 rfl (Nat.le_of_ble_eq_true rfl) ⟨by decide, by decide⟩ dL_law_724 (fun H locs hH => ?_)
  refine lv_aload_n hx hb dL_law_727 rfl (lv_at hl 2 rfl) ?_
  refine lv_aload_n hx hb dL_law_728 rfl (lv_at hl 0 rfl) ?_
  refine lv_iload_n hx hb dL_law_729 rfl (lv_at hl 3 rfl) ?_
  refine lv_iconst (v := 1) hx hb dL_law_730 (by decide) ?_
  refine lv_iadd hx hb dL_law_731 ?_
  refine va_sld hx hb hX hbl hbA hH.2 hi1 dL_law_732 ?_
  refine c_Vi X hH (k := 42) (n := 1) (As := [.int _]) (rest := [.int _]) (c_Mo_shut_42 l G (N := N) h2) (by decide) rfl rfl tw_722 tw_719 tw_720 tw_721 tw_13 (by decide +kernel) ⟨by decide, by decide⟩ rfl hl.1 rfl (Nat.le_of_ble_eq_true rfl) ⟨by decide, by decide⟩ dL_law_733 (fun H locs hH => ?_)
  refine lv_icmp_eq (tgt := 876) hx hb dL_law_736 (by decide) (fun c1 => ?_) (fun c1 => ?_)
  · exact hk τ2 _ _ _ hI2 hH hl
  · exact absurd rfl c1
set_option maxHeartbeats 4000000 in
set_option maxRecDepth 100000 in
theorem lc_shutting {l : Launch} {G : GT} {N : Nat} {I : Hp → Prop} {p : Program} {e : Env} {s : State} {m : MethodId} {below : List Frame} {meth : Method} {c : Code} {b L : Nat} {xs : Nat → Int32} (hO : Ops N I) (X : Cx G p s m #[Value.ref b] meth c cL_law 4 RL (some .boolean)) (hZ : zG G = s.heap.size) (hX : va_X b L xs s s.heap) (hbl : b < s.heap.size) (hL : L ≤ 3072) {i : Nat} (hi : i + 6 ≤ L) {τ : Hp} {H : Heap} {locs : List Loc} {ls : Array Slot} (hI : I τ) (hH : Hs G τ s H locs) (hl : lv_has ls 4 [(0, .ref b), (1, .ref (aG G 0)), (2, .ref (aG G 42)), (3, .int (nI i))]) (hk : ∀ (τ : Hp) (H : Heap) (locs : List Loc) (ls : Array Slot), I τ → Hs G τ s H locs → lv_has ls 4 [(0, .ref b), (1, .ref (aG G 0)), (2, .ref (aG G 42)), (3, .int (nI i))] → W p l e room_1 s m #[Value.ref b] below meth c H locs 66 7035 (lw_Z below #[Value.ref b] s) (F0 m 876 ls [])) : W p l e room_1 s m #[Value.ref b] below meth c H locs 66 7035 (lw_Z below #[Value.ref b] s) (F0 m 741 ls []) := by
  have hx := X.hx
  have hb := X.hb
  have hbA : ¬ Fr G b := by show ¬ zG G ≤ b; rw [hZ]; omega
  have hi1 : vp_in (nI i + 1) L := lx_in (j := 1) (by decide) hi hL
  have hi2 : vp_in (nI i + 2) L := lx_in (j := 2) (by decide) hi hL
  have hi3 : vp_in (nI i + 3) L := lx_in (j := 3) (by decide) hi hL
  have hi4 : vp_in (nI i + 4) L := lx_in (j := 4) (by decide) hi hL
  have hi5 : vp_in (nI i + 5) L := lx_in (j := 5) (by decide) hi hL
  obtain ⟨r, τ1, τ2, h1, h2, hI2⟩ := hO.2.2.2.2.2.2.2.2.2.2.2.2.2.2.2.1 (xs (Int32.toNatClampNeg (nI i + 1)))  τ hI
  refine lv_aload_n hx hb dL_law_741 rfl (lv_at hl 1 rfl) ?_
  refine lv_aload_n hx hb dL_law_742 rfl (lv_at hl 0 rfl) ?_
  refine lv_iload_n hx hb dL_law_743 rfl (lv_at hl 3 rfl) ?_
  refine lv_iconst (v := 1) hx hb dL_law_744 (by decide) ?_
  refine lv_iadd hx hb dL_law_745 ?_
  refine va_sld hx hb hX hbl hbA hH.2 hi1 dL_law_746 ?_
  refine c_Vi X hH (k := 0) (n := 1) (As := [.int _]) (rest := []) (c_WP_shutting_0 l G (N := N) h1) (by decide) rfl rfl tw_486 tw_483 tw_484 tw_485 tw_1 (by decide +kernel) ⟨by decide, by decide⟩ rfl hl.1 rfl (Nat.le_of_ble_eq_true rfl) ⟨by decide, by decide⟩ dL_law_747 (fun H locs hH => ?_)
  refine lv_aload_n hx hb dL_law_750 rfl (lv_at hl 2 rfl) ?_
  refine lv_aload_n hx hb dL_law_751 rfl (lv_at hl 0 rfl) ?_
  refine lv_iload_n hx hb dL_law_752 rfl (lv_at hl 3 rfl) ?_
  refine lv_iconst (v := 1) hx hb dL_law_753 (by decide) ?_
  refine lv_iadd hx hb dL_law_754 ?_
  refine va_sld hx hb hX hbl hbA hH.2 hi1 dL_law_755 ?_
  refine c_Vi X hH (k := 42) (n := 1) (As := [.int _]) (rest := [.int _]) (c_Mo_shutting_42 l G (N := N) h2) (by decide) rfl rfl tw_726 tw_723 tw_724 tw_725 tw_13 (by decide +kernel) ⟨by decide, by decide⟩ rfl hl.1 rfl (Nat.le_of_ble_eq_true rfl) ⟨by decide, by decide⟩ dL_law_756 (fun H locs hH => ?_)
  refine lv_icmp_eq (tgt := 876) hx hb dL_law_759 (by decide) (fun c1 => ?_) (fun c1 => ?_)
  · exact hk τ2 _ _ _ hI2 hH hl
  · exact absurd rfl c1
set_option maxHeartbeats 4000000 in
set_option maxRecDepth 100000 in
theorem lc_odd {l : Launch} {G : GT} {N : Nat} {I : Hp → Prop} {p : Program} {e : Env} {s : State} {m : MethodId} {below : List Frame} {meth : Method} {c : Code} {b L : Nat} {xs : Nat → Int32} (hO : Ops N I) (X : Cx G p s m #[Value.ref b] meth c cL_law 4 RL (some .boolean)) (hZ : zG G = s.heap.size) (hX : va_X b L xs s s.heap) (hbl : b < s.heap.size) (hL : L ≤ 3072) {i : Nat} (hi : i + 6 ≤ L) {τ : Hp} {H : Heap} {locs : List Loc} {ls : Array Slot} (hI : I τ) (hH : Hs G τ s H locs) (hl : lv_has ls 4 [(0, .ref b), (1, .ref (aG G 0)), (2, .ref (aG G 42)), (3, .int (nI i))]) (hk : ∀ (τ : Hp) (H : Heap) (locs : List Loc) (ls : Array Slot), I τ → Hs G τ s H locs → lv_has ls 4 [(0, .ref b), (1, .ref (aG G 0)), (2, .ref (aG G 42)), (3, .int (nI i))] → W p l e room_1 s m #[Value.ref b] below meth c H locs 66 7035 (lw_Z below #[Value.ref b] s) (F0 m 876 ls [])) : W p l e room_1 s m #[Value.ref b] below meth c H locs 66 7035 (lw_Z below #[Value.ref b] s) (F0 m 764 ls []) := by
  have hx := X.hx
  have hb := X.hb
  have hbA : ¬ Fr G b := by show ¬ zG G ≤ b; rw [hZ]; omega
  have hi1 : vp_in (nI i + 1) L := lx_in (j := 1) (by decide) hi hL
  have hi2 : vp_in (nI i + 2) L := lx_in (j := 2) (by decide) hi hL
  have hi3 : vp_in (nI i + 3) L := lx_in (j := 3) (by decide) hi hL
  have hi4 : vp_in (nI i + 4) L := lx_in (j := 4) (by decide) hi hL
  have hi5 : vp_in (nI i + 5) L := lx_in (j := 5) (by decide) hi hL
  obtain ⟨r, τ1, τ2, h1, h2, hI2⟩ := hO.2.2.2.2.2.2.2.2.2.2.2.2.2.2.2.2.1 (xs (Int32.toNatClampNeg (nI i + 1)))  τ hI
  refine lv_aload_n hx hb dL_law_764 rfl (lv_at hl 1 rfl) ?_
  refine lv_aload_n hx hb dL_law_765 rfl (lv_at hl 0 rfl) ?_
  refine lv_iload_n hx hb dL_law_766 rfl (lv_at hl 3 rfl) ?_
  refine lv_iconst (v := 1) hx hb dL_law_767 (by decide) ?_
  refine lv_iadd hx hb dL_law_768 ?_
  refine va_sld hx hb hX hbl hbA hH.2 hi1 dL_law_769 ?_
  refine c_Vi X hH (k := 0) (n := 1) (As := [.int _]) (rest := []) (c_WP_odd_0 l G (N := N) h1) (by decide) rfl rfl tw_490 tw_487 tw_488 tw_489 tw_1 (by decide +kernel) ⟨by decide, by decide⟩ rfl hl.1 rfl (Nat.le_of_ble_eq_true rfl) ⟨by decide, by decide⟩ dL_law_770 (fun H locs hH => ?_)
  refine lv_aload_n hx hb dL_law_773 rfl (lv_at hl 2 rfl) ?_
  refine lv_aload_n hx hb dL_law_774 rfl (lv_at hl 0 rfl) ?_
  refine lv_iload_n hx hb dL_law_775 rfl (lv_at hl 3 rfl) ?_
  refine lv_iconst (v := 1) hx hb dL_law_776 (by decide) ?_
  refine lv_iadd hx hb dL_law_777 ?_
  refine va_sld hx hb hX hbl hbA hH.2 hi1 dL_law_778 ?_
  refine c_Vi X hH (k := 42) (n := 1) (As := [.int _]) (rest := [.int _]) (c_Mo_odd_42 l G (N := N) h2) (by decide) rfl rfl tw_730 tw_727 tw_728 tw_729 tw_13 (by decide +kernel) ⟨by decide, by decide⟩ rfl hl.1 rfl (Nat.le_of_ble_eq_true rfl) ⟨by decide, by decide⟩ dL_law_779 (fun H locs hH => ?_)
  refine lv_icmp_eq (tgt := 876) hx hb dL_law_782 (by decide) (fun c1 => ?_) (fun c1 => ?_)
  · exact hk τ2 _ _ _ hI2 hH hl
  · exact absurd rfl c1
set_option maxHeartbeats 4000000 in
set_option maxRecDepth 100000 in
theorem lc_oddTalk {l : Launch} {G : GT} {N : Nat} {I : Hp → Prop} {p : Program} {e : Env} {s : State} {m : MethodId} {below : List Frame} {meth : Method} {c : Code} {b L : Nat} {xs : Nat → Int32} (hO : Ops N I) (X : Cx G p s m #[Value.ref b] meth c cL_law 4 RL (some .boolean)) (hZ : zG G = s.heap.size) (hX : va_X b L xs s s.heap) (hbl : b < s.heap.size) (hL : L ≤ 3072) {i : Nat} (hi : i + 6 ≤ L) {τ : Hp} {H : Heap} {locs : List Loc} {ls : Array Slot} (hI : I τ) (hH : Hs G τ s H locs) (hl : lv_has ls 4 [(0, .ref b), (1, .ref (aG G 0)), (2, .ref (aG G 42)), (3, .int (nI i))]) (hk : ∀ (τ : Hp) (H : Heap) (locs : List Loc) (ls : Array Slot), I τ → Hs G τ s H locs → lv_has ls 4 [(0, .ref b), (1, .ref (aG G 0)), (2, .ref (aG G 42)), (3, .int (nI i))] → W p l e room_1 s m #[Value.ref b] below meth c H locs 66 7035 (lw_Z below #[Value.ref b] s) (F0 m 876 ls [])) : W p l e room_1 s m #[Value.ref b] below meth c H locs 66 7035 (lw_Z below #[Value.ref b] s) (F0 m 787 ls []) := by
  have hx := X.hx
  have hb := X.hb
  have hbA : ¬ Fr G b := by show ¬ zG G ≤ b; rw [hZ]; omega
  have hi1 : vp_in (nI i + 1) L := lx_in (j := 1) (by decide) hi hL
  have hi2 : vp_in (nI i + 2) L := lx_in (j := 2) (by decide) hi hL
  have hi3 : vp_in (nI i + 3) L := lx_in (j := 3) (by decide) hi hL
  have hi4 : vp_in (nI i + 4) L := lx_in (j := 4) (by decide) hi hL
  have hi5 : vp_in (nI i + 5) L := lx_in (j := 5) (by decide) hi hL
  obtain ⟨r, τ1, τ2, h1, h2, hI2⟩ := hO.2.2.2.2.2.2.2.2.2.2.2.2.2.2.2.2.2.1 (xs (Int32.toNatClampNeg (nI i + 1))) (xs (Int32.toNatClampNeg (nI i + 2)))  τ hI
  refine lv_aload_n hx hb dL_law_787 rfl (lv_at hl 1 rfl) ?_
  refine lv_aload_n hx hb dL_law_788 rfl (lv_at hl 0 rfl) ?_
  refine lv_iload_n hx hb dL_law_789 rfl (lv_at hl 3 rfl) ?_
  refine lv_iconst (v := 1) hx hb dL_law_790 (by decide) ?_
  refine lv_iadd hx hb dL_law_791 ?_
  refine va_sld hx hb hX hbl hbA hH.2 hi1 dL_law_792 ?_
  refine lv_aload_n hx hb dL_law_793 rfl (lv_at hl 0 rfl) ?_
  refine lv_iload_n hx hb dL_law_794 rfl (lv_at hl 3 rfl) ?_
  refine lv_iconst (v := 2) hx hb dL_law_795 (by decide) ?_
  refine lv_iadd hx hb dL_law_796 ?_
  refine va_sld hx hb hX hbl hbA hH.2 hi2 dL_law_797 ?_
  refine c_Vi X hH (k := 0) (n := 2) (As := [.int _, .int _]) (rest := []) (c_WP_oddTalk_0 l G (N := N) h1) (by decide) rfl rfl tw_504 tw_501 tw_502 tw_503 tw_1 (by decide +kernel) ⟨by decide, by decide⟩ rfl hl.1 rfl (Nat.le_of_ble_eq_true rfl) ⟨by decide, by decide⟩ dL_law_798 (fun H locs hH => ?_)
  refine lv_aload_n hx hb dL_law_801 rfl (lv_at hl 2 rfl) ?_
  refine lv_aload_n hx hb dL_law_802 rfl (lv_at hl 0 rfl) ?_
  refine lv_iload_n hx hb dL_law_803 rfl (lv_at hl 3 rfl) ?_
  refine lv_iconst (v := 1) hx hb dL_law_804 (by decide) ?_
  refine lv_iadd hx hb dL_law_805 ?_
  refine va_sld hx hb hX hbl hbA hH.2 hi1 dL_law_806 ?_
  refine lv_aload_n hx hb dL_law_807 rfl (lv_at hl 0 rfl) ?_
  refine lv_iload_n hx hb dL_law_808 rfl (lv_at hl 3 rfl) ?_
  refine lv_iconst (v := 2) hx hb dL_law_809 (by decide) ?_
  refine lv_iadd hx hb dL_law_810 ?_
  refine va_sld hx hb hX hbl hbA hH.2 hi2 dL_law_811 ?_
  refine c_Vi X hH (k := 42) (n := 2) (As := [.int _, .int _]) (rest := [.int _]) (c_Mo_oddTalk_42 l G (N := N) h2) (by decide) rfl rfl tw_737 tw_734 tw_735 tw_736 tw_13 (by decide +kernel) ⟨by decide, by decide⟩ rfl hl.1 rfl (Nat.le_of_ble_eq_true rfl) ⟨by decide, by decide⟩ dL_law_812 (fun H locs hH => ?_)
  refine lv_icmp_eq (tgt := 876) hx hb dL_law_815 (by decide) (fun c1 => ?_) (fun c1 => ?_)
  · exact hk τ2 _ _ _ hI2 hH hl
  · exact absurd rfl c1
set_option maxHeartbeats 4000000 in
set_option maxRecDepth 100000 in
theorem lc_place {l : Launch} {G : GT} {N : Nat} {I : Hp → Prop} {p : Program} {e : Env} {s : State} {m : MethodId} {below : List Frame} {meth : Method} {c : Code} {b L : Nat} {xs : Nat → Int32} (hO : Ops N I) (X : Cx G p s m #[Value.ref b] meth c cL_law 4 RL (some .boolean)) (hZ : zG G = s.heap.size) (hX : va_X b L xs s s.heap) (hbl : b < s.heap.size) (hL : L ≤ 3072) {i : Nat} (hi : i + 6 ≤ L) {τ : Hp} {H : Heap} {locs : List Loc} {ls : Array Slot} (hI : I τ) (hH : Hs G τ s H locs) (hl : lv_has ls 4 [(0, .ref b), (1, .ref (aG G 0)), (2, .ref (aG G 42)), (3, .int (nI i))]) (hk : ∀ (τ : Hp) (H : Heap) (locs : List Loc) (ls : Array Slot), I τ → Hs G τ s H locs → lv_has ls 4 [(0, .ref b), (1, .ref (aG G 0)), (2, .ref (aG G 42)), (3, .int (nI i))] → W p l e room_1 s m #[Value.ref b] below meth c H locs 66 7035 (lw_Z below #[Value.ref b] s) (F0 m 876 ls [])) : W p l e room_1 s m #[Value.ref b] below meth c H locs 66 7035 (lw_Z below #[Value.ref b] s) (F0 m 820 ls []) := by
  have hx := X.hx
  have hb := X.hb
  have hbA : ¬ Fr G b := by show ¬ zG G ≤ b; rw [hZ]; omega
  have hi1 : vp_in (nI i + 1) L := lx_in (j := 1) (by decide) hi hL
  have hi2 : vp_in (nI i + 2) L := lx_in (j := 2) (by decide) hi hL
  have hi3 : vp_in (nI i + 3) L := lx_in (j := 3) (by decide) hi hL
  have hi4 : vp_in (nI i + 4) L := lx_in (j := 4) (by decide) hi hL
  have hi5 : vp_in (nI i + 5) L := lx_in (j := 5) (by decide) hi hL
  obtain ⟨r, τ1, τ2, h1, h2, hI2⟩ := hO.2.2.2.2.2.2.2.2.2.2.2.2.2.2.2.2.2.2.1 (xs (Int32.toNatClampNeg (nI i + 1))) (xs (Int32.toNatClampNeg (nI i + 2)))  τ hI
  refine lv_aload_n hx hb dL_law_820 rfl (lv_at hl 1 rfl) ?_
  refine lv_aload_n hx hb dL_law_821 rfl (lv_at hl 0 rfl) ?_
  refine lv_iload_n hx hb dL_law_822 rfl (lv_at hl 3 rfl) ?_
  refine lv_iconst (v := 1) hx hb dL_law_823 (by decide) ?_
  refine lv_iadd hx hb dL_law_824 ?_
  refine va_sld hx hb hX hbl hbA hH.2 hi1 dL_law_825 ?_
  refine lv_aload_n hx hb dL_law_826 rfl (lv_at hl 0 rfl) ?_
  refine lv_iload_n hx hb dL_law_827 rfl (lv_at hl 3 rfl) ?_
  refine lv_iconst (v := 2) hx hb dL_law_828 (by decide) ?_
  refine lv_iadd hx hb dL_law_829 ?_
  refine va_sld hx hb hX hbl hbA hH.2 hi2 dL_law_830 ?_
  refine c_Vi X hH (k := 0) (n := 2) (As := [.int _, .int _]) (rest := []) (c_WP_place_0 l G (N := N) h1) (by decide) rfl rfl tw_508 tw_505 tw_506 tw_507 tw_1 (by decide +kernel) ⟨by decide, by decide⟩ rfl hl.1 rfl (Nat.le_of_ble_eq_true rfl) ⟨by decide, by decide⟩ dL_law_831 (fun H locs hH => ?_)
  refine lv_aload_n hx hb dL_law_834 rfl (lv_at hl 2 rfl) ?_
  refine lv_aload_n hx hb dL_law_835 rfl (lv_at hl 0 rfl) ?_
  refine lv_iload_n hx hb dL_law_836 rfl (lv_at hl 3 rfl) ?_
  refine lv_iconst (v := 1) hx hb dL_law_837 (by decide) ?_
  refine lv_iadd hx hb dL_law_838 ?_
  refine va_sld hx hb hX hbl hbA hH.2 hi1 dL_law_839 ?_
  refine lv_aload_n hx hb dL_law_840 rfl (lv_at hl 0 rfl) ?_
  refine lv_iload_n hx hb dL_law_841 rfl (lv_at hl 3 rfl) ?_
  refine lv_iconst (v := 2) hx hb dL_law_842 (by decide) ?_
  refine lv_iadd hx hb dL_law_843 ?_
  refine va_sld hx hb hX hbl hbA hH.2 hi2 dL_law_844 ?_
  refine c_Vi X hH (k := 42) (n := 2) (As := [.int _, .int _]) (rest := [.int _]) (c_Mo_place_42 l G (N := N) h2) (by decide) rfl rfl tw_741 tw_738 tw_739 tw_740 tw_13 (by decide +kernel) ⟨by decide, by decide⟩ rfl hl.1 rfl (Nat.le_of_ble_eq_true rfl) ⟨by decide, by decide⟩ dL_law_845 (fun H locs hH => ?_)
  refine lv_icmp_eq (tgt := 876) hx hb dL_law_848 (by decide) (fun c1 => ?_) (fun c1 => ?_)
  · exact hk τ2 _ _ _ hI2 hH hl
  · exact absurd rfl c1
set_option maxHeartbeats 4000000 in
set_option maxRecDepth 100000 in
theorem lc_count {l : Launch} {G : GT} {N : Nat} {I : Hp → Prop} {p : Program} {e : Env} {s : State} {m : MethodId} {below : List Frame} {meth : Method} {c : Code} {b L : Nat} {xs : Nat → Int32} (hO : Ops N I) (X : Cx G p s m #[Value.ref b] meth c cL_law 4 RL (some .boolean)) (hZ : zG G = s.heap.size) (hX : va_X b L xs s s.heap) (hbl : b < s.heap.size) (hL : L ≤ 3072) {i : Nat} (hi : i + 6 ≤ L) {τ : Hp} {H : Heap} {locs : List Loc} {ls : Array Slot} (hI : I τ) (hH : Hs G τ s H locs) (hl : lv_has ls 4 [(0, .ref b), (1, .ref (aG G 0)), (2, .ref (aG G 42)), (3, .int (nI i))]) (hk : ∀ (τ : Hp) (H : Heap) (locs : List Loc) (ls : Array Slot), I τ → Hs G τ s H locs → lv_has ls 4 [(0, .ref b), (1, .ref (aG G 0)), (2, .ref (aG G 42)), (3, .int (nI i))] → W p l e room_1 s m #[Value.ref b] below meth c H locs 66 7035 (lw_Z below #[Value.ref b] s) (F0 m 876 ls [])) : W p l e room_1 s m #[Value.ref b] below meth c H locs 66 7035 (lw_Z below #[Value.ref b] s) (F0 m 853 ls []) := by
  have hx := X.hx
  have hb := X.hb
  have hbA : ¬ Fr G b := by show ¬ zG G ≤ b; rw [hZ]; omega
  have hi1 : vp_in (nI i + 1) L := lx_in (j := 1) (by decide) hi hL
  have hi2 : vp_in (nI i + 2) L := lx_in (j := 2) (by decide) hi hL
  have hi3 : vp_in (nI i + 3) L := lx_in (j := 3) (by decide) hi hL
  have hi4 : vp_in (nI i + 4) L := lx_in (j := 4) (by decide) hi hL
  have hi5 : vp_in (nI i + 5) L := lx_in (j := 5) (by decide) hi hL
  obtain ⟨r, τ1, τ2, h1, h2, hI2⟩ := hO.2.2.2.2.2.2.2.2.2.2.2.2.2.2.2.2.2.2.2 (xs (Int32.toNatClampNeg (nI i + 1)))  τ hI
  refine lv_aload_n hx hb dL_law_853 rfl (lv_at hl 1 rfl) ?_
  refine lv_aload_n hx hb dL_law_854 rfl (lv_at hl 0 rfl) ?_
  refine lv_iload_n hx hb dL_law_855 rfl (lv_at hl 3 rfl) ?_
  refine lv_iconst (v := 1) hx hb dL_law_856 (by decide) ?_
  refine lv_iadd hx hb dL_law_857 ?_
  refine va_sld hx hb hX hbl hbA hH.2 hi1 dL_law_858 ?_
  refine c_Vi X hH (k := 0) (n := 1) (As := [.int _]) (rest := []) (c_WP_count_0 l G (N := N) h1) (by decide) rfl rfl tw_518 tw_515 tw_516 tw_517 tw_1 (by decide +kernel) ⟨by decide, by decide⟩ rfl hl.1 rfl (Nat.le_of_ble_eq_true rfl) ⟨by decide, by decide⟩ dL_law_859 (fun H locs hH => ?_)
  refine lv_aload_n hx hb dL_law_862 rfl (lv_at hl 2 rfl) ?_
  refine lv_aload_n hx hb dL_law_863 rfl (lv_at hl 0 rfl) ?_
  refine lv_iload_n hx hb dL_law_864 rfl (lv_at hl 3 rfl) ?_
  refine lv_iconst (v := 1) hx hb dL_law_865 (by decide) ?_
  refine lv_iadd hx hb dL_law_866 ?_
  refine va_sld hx hb hX hbl hbA hH.2 hi1 dL_law_867 ?_
  refine c_Vi X hH (k := 42) (n := 1) (As := [.int _]) (rest := [.int _]) (c_Mo_count_42 l G (N := N) h2) (by decide) rfl rfl tw_754 tw_751 tw_752 tw_753 tw_13 (by decide +kernel) ⟨by decide, by decide⟩ rfl hl.1 rfl (Nat.le_of_ble_eq_true rfl) ⟨by decide, by decide⟩ dL_law_868 (fun H locs hH => ?_)
  refine lv_icmp_eq (tgt := 876) hx hb dL_law_871 (by decide) (fun c1 => ?_) (fun c1 => ?_)
  · exact hk τ2 _ _ _ hI2 hH hl
  · exact absurd rfl c1
set_option maxHeartbeats 4000000 in
set_option maxRecDepth 100000 in
theorem law_loop {l : Launch} {G : GT} {N : Nat} {I : Hp → Prop} {p : Program} {e : Env} {s : State} {m : MethodId} {below : List Frame} {meth : Method} {c : Code} {b L : Nat} {xs : Nat → Int32} (hO : Ops N I) (X : Cx G p s m #[Value.ref b] meth c cL_law 4 RL (some .boolean)) (hZ : zG G = s.heap.size) (hX : va_X b L xs s s.heap) (hbl : b < s.heap.size) (hL : L ≤ 3072) : ∀ (n i : Nat), L < i + n → i ≤ 3072 → ∀ (τ : Hp) (H : Heap) (locs : List Loc) (ls : Array Slot), I τ → Hs G τ s H locs → lv_has ls 4 [(0, .ref b), (1, .ref (aG G 0)), (2, .ref (aG G 42)), (3, .int (nI i))] → W p l e room_1 s m #[Value.ref b] below meth c H locs 66 7035 (lw_Z below #[Value.ref b] s) (F0 m 18 ls []) := by
  have hx := X.hx
  have hb := X.hb
  have hbA : ¬ Fr G b := by show ¬ zG G ≤ b; rw [hZ]; omega
  intro n
  induction n with
  | zero =>
    intro i hn hi3 τ H locs ls hI hH hl
    refine lv_iload_n hx hb dL_law_18 rfl (lv_at hl 3 rfl) ?_
    refine lv_aload_n hx hb dL_law_19 rfl (lv_at hl 0 rfl) ?_
    refine va_slen hx hb hX hbl hbA hH.2 dL_law_20 ?_
    refine lv_bipush (v := 6) hx hb dL_law_21 (by decide) ?_
    refine lv_isub hx hb dL_law_23 ?_
    refine lv_icmp_gt (tgt := 882) hx hb dL_law_24 (by decide) (fun c1 => ?_) (fun c1 => ?_)
    · refine lv_iconst (v := 1) hx hb dL_law_882 (by decide) ?_
      refine va_forget (fun q hq => by rw [← hZ]; exact hH.2.2.2 q hq) ?_
      exact lw_ret X.hx X.hb X.hr X.lk dL_law_883
    · refine absurd ?_ c1
      show nI L - nI 6 < nI i
      rw [fa_ltI, pk_sub_toInt (by omega) (by omega), nI_toInt (by omega)]
      omega
  | succ n ih =>
    intro i hn hi3 τ H locs ls hI hH hl
    refine lv_iload_n hx hb dL_law_18 rfl (lv_at hl 3 rfl) ?_
    refine lv_aload_n hx hb dL_law_19 rfl (lv_at hl 0 rfl) ?_
    refine va_slen hx hb hX hbl hbA hH.2 dL_law_20 ?_
    refine lv_bipush (v := 6) hx hb dL_law_21 (by decide) ?_
    refine lv_isub hx hb dL_law_23 ?_
    refine lv_icmp_gt (tgt := 882) hx hb dL_law_24 (by decide) (fun c1 => ?_) (fun c1 => ?_)
    · refine lv_iconst (v := 1) hx hb dL_law_882 (by decide) ?_
      refine va_forget (fun q hq => by rw [← hZ]; exact hH.2.2.2 q hq) ?_
      exact lw_ret X.hx X.hb X.hr X.lk dL_law_883
    · have hi : i + 6 ≤ L := by
        have c2 : ¬ (nI L - nI 6 < nI i) := c1
        rw [fa_ltI, pk_sub_toInt (by omega) (by omega), nI_toInt (by omega)] at c2
        omega
      have hk : ∀ (τ : Hp) (H : Heap) (locs : List Loc) (ls : Array Slot), I τ → Hs G τ s H locs → lv_has ls 4 [(0, .ref b), (1, .ref (aG G 0)), (2, .ref (aG G 42)), (3, .int (nI i))] → W p l e room_1 s m #[Value.ref b] below meth c H locs 66 7035 (lw_Z below #[Value.ref b] s) (F0 m 876 ls []) := by
        intro τ H locs ls hI hH hl
        obtain ⟨x3, ex3⟩ : ∃ y : Int32, y = nI (i + 6) := ⟨_, rfl⟩
        refine lv_iinc (v := x3) (lv' := [(3, .int x3), (0, .ref b), (1, .ref (aG G 0)), (2, .ref (aG G 42))]) hx hb dL_law_876 hl (k := 3) rfl (by rw [ex3, ← nI_add]; rfl) (by decide) rfl (fun ls hl => ?_)
        refine lv_goto (tgt := 18) hx hb dL_law_879 (by decide) ?_
        rw [ex3] at hl
        exact ih (i + 6) (by omega) (by omega) τ H locs ls hI hH (lv_sub hl [1, 2, 3, 0] rfl)
      have hi0 : vp_in (nI i) L := vp_in_nI (by omega) (by omega)
      refine lv_aload_n hx hb dL_law_27 rfl (lv_at hl 0 rfl) ?_
      refine lv_iload_n hx hb dL_law_28 rfl (lv_at hl 3 rfl) ?_
      refine va_sld hx hb hX hbl hbA hH.2 hi0 dL_law_29 ?_
      refine lv_bipush (v := 31) hx hb dL_law_30 (by decide) ?_
      refine lv_iand hx hb dL_law_32 ?_
      refine lv_topi (fun y ey => ?_)
      by_cases c0 : y = 0
      · refine lv_tableIn (tgt := 128) hx hb dL_law_33 (by rw [c0]; decide) (by rw [c0]; decide) (off := 95) (by rw [c0]; decide) (by decide) ?_
        exact lc_host hO X hZ hX hbl hL hi hI hH hl hk
      by_cases c1 : y = 1
      · refine lv_tableIn (tgt := 151) hx hb dL_law_33 (by rw [c1]; decide) (by rw [c1]; decide) (off := 118) (by rw [c1]; decide) (by decide) ?_
        exact lc_talk hO X hZ hX hbl hL hi hI hH hl hk
      by_cases c2 : y = 2
      · refine lv_tableIn (tgt := 214) hx hb dL_law_33 (by rw [c2]; decide) (by rw [c2]; decide) (off := 181) (by rw [c2]; decide) (by decide) ?_
        exact lc_must hO X hZ hX hbl hL hi hI hH hl hk
      by_cases c3 : y = 3
      · refine lv_tableIn (tgt := 283) hx hb dL_law_33 (by rw [c3]; decide) (by rw [c3]; decide) (off := 250) (by rw [c3]; decide) (by decide) ?_
        exact lc_bar hO X hZ hX hbl hL hi hI hH hl hk
      by_cases c4 : y = 4
      · refine lv_tableIn (tgt := 352) hx hb dL_law_33 (by rw [c4]; decide) (by rw [c4]; decide) (off := 319) (by rw [c4]; decide) (by decide) ?_
        exact lc_law hO X hZ hX hbl hL hi hI hH hl hk
      by_cases c5 : y = 5
      · refine lv_tableIn (tgt := 411) hx hb dL_law_33 (by rw [c5]; decide) (by rw [c5]; decide) (off := 378) (by rw [c5]; decide) (by decide) ?_
        exact lc_prices hO X hZ hX hbl hL hi hI hH hl hk
      by_cases c6 : y = 6
      · refine lv_tableIn (tgt := 444) hx hb dL_law_33 (by rw [c6]; decide) (by rw [c6]; decide) (off := 411) (by rw [c6]; decide) (by decide) ?_
        exact lc_weight hO X hZ hX hbl hL hi hI hH hl hk
      by_cases c7 : y = 7
      · refine lv_tableIn (tgt := 497) hx hb dL_law_33 (by rw [c7]; decide) (by rw [c7]; decide) (off := 464) (by rw [c7]; decide) (by decide) ?_
        exact lc_needed hO X hZ hX hbl hL hi hI hH hl hk
      by_cases c8 : y = 8
      · refine lv_tableIn (tgt := 550) hx hb dL_law_33 (by rw [c8]; decide) (by rw [c8]; decide) (off := 517) (by rw [c8]; decide) (by decide) ?_
        exact lc_plan hO X hZ hX hbl hL hi hI hH hl hk
      by_cases c9 : y = 9
      · refine lv_tableIn (tgt := 573) hx hb dL_law_33 (by rw [c9]; decide) (by rw [c9]; decide) (off := 540) (by rw [c9]; decide) (by decide) ?_
        exact lc_room hO X hZ hX hbl hL hi hI hH hl hk
      by_cases c10 : y = 10
      · refine lv_tableIn (tgt := 596) hx hb dL_law_33 (by rw [c10]; decide) (by rw [c10]; decide) (off := 563) (by rw [c10]; decide) (by decide) ?_
        exact lc_rule hO X hZ hX hbl hL hi hI hH hl hk
      by_cases c11 : y = 11
      · refine lv_tableIn (tgt := 629) hx hb dL_law_33 (by rw [c11]; decide) (by rw [c11]; decide) (off := 596) (by rw [c11]; decide) (by decide) ?_
        exact lc_lets hO X hZ hX hbl hL hi hI hH hl hk
      by_cases c12 : y = 12
      · refine lv_tableIn (tgt := 672) hx hb dL_law_33 (by rw [c12]; decide) (by rw [c12]; decide) (off := 639) (by rw [c12]; decide) (by decide) ?_
        exact lc_reach hO X hZ hX hbl hL hi hI hH hl hk
      by_cases c13 : y = 13
      · refine lv_tableIn (tgt := 695) hx hb dL_law_33 (by rw [c13]; decide) (by rw [c13]; decide) (off := 662) (by rw [c13]; decide) (by decide) ?_
        exact lc_spread hO X hZ hX hbl hL hi hI hH hl hk
      by_cases c14 : y = 14
      · refine lv_tableIn (tgt := 718) hx hb dL_law_33 (by rw [c14]; decide) (by rw [c14]; decide) (off := 685) (by rw [c14]; decide) (by decide) ?_
        exact lc_shut hO X hZ hX hbl hL hi hI hH hl hk
      by_cases c15 : y = 15
      · refine lv_tableIn (tgt := 741) hx hb dL_law_33 (by rw [c15]; decide) (by rw [c15]; decide) (off := 708) (by rw [c15]; decide) (by decide) ?_
        exact lc_shutting hO X hZ hX hbl hL hi hI hH hl hk
      by_cases c16 : y = 16
      · refine lv_tableIn (tgt := 764) hx hb dL_law_33 (by rw [c16]; decide) (by rw [c16]; decide) (off := 731) (by rw [c16]; decide) (by decide) ?_
        exact lc_odd hO X hZ hX hbl hL hi hI hH hl hk
      by_cases c17 : y = 17
      · refine lv_tableIn (tgt := 787) hx hb dL_law_33 (by rw [c17]; decide) (by rw [c17]; decide) (off := 754) (by rw [c17]; decide) (by decide) ?_
        exact lc_oddTalk hO X hZ hX hbl hL hi hI hH hl hk
      by_cases c18 : y = 18
      · refine lv_tableIn (tgt := 820) hx hb dL_law_33 (by rw [c18]; decide) (by rw [c18]; decide) (off := 787) (by rw [c18]; decide) (by decide) ?_
        exact lc_place hO X hZ hX hbl hL hi hI hH hl hk
      by_cases c19 : y = 19
      · refine lv_tableIn (tgt := 853) hx hb dL_law_33 (by rw [c19]; decide) (by rw [c19]; decide) (off := 820) (by rw [c19]; decide) (by decide) ?_
        exact lc_count hO X hZ hX hbl hL hi hI hH hl hk
      refine lv_tableOut (tgt := 876) hx hb dL_law_33 (sw_out 19 (fun j hj => ?_)) (by decide) ?_
      · rcases (show j = 0 ∨ j = 1 ∨ j = 2 ∨ j = 3 ∨ j = 4 ∨ j = 5 ∨ j = 6 ∨ j = 7 ∨ j = 8 ∨ j = 9 ∨ j = 10 ∨ j = 11 ∨ j = 12 ∨ j = 13 ∨ j = 14 ∨ j = 15 ∨ j = 16 ∨ j = 17 ∨ j = 18 ∨ j = 19 by omega) with rfl | rfl | rfl | rfl | rfl | rfl | rfl | rfl | rfl | rfl | rfl | rfl | rfl | rfl | rfl | rfl | rfl | rfl | rfl | rfl
        · exact c0
        · exact c1
        · exact c2
        · exact c3
        · exact c4
        · exact c5
        · exact c6
        · exact c7
        · exact c8
        · exact c9
        · exact c10
        · exact c11
        · exact c12
        · exact c13
        · exact c14
        · exact c15
        · exact c16
        · exact c17
        · exact c18
        · exact c19
      exact hk τ _ _ _ hI hH hl
set_option maxHeartbeats 8000000 in
set_option maxRecDepth 100000 in
theorem law_start {N : Nat} {I : Hp → Prop} (hO : Ops N I) (hI0 : ∀ g0 g1 g2 : Nat → Int32, (∀ j, j < 8 → g0 j = (-1)) → (∀ j, j < 8 → g1 j = (-1)) → (∀ j, j < 8 → g2 j = (-1)) → I (s0 g0 g1 g2)) {p : Program} {e : Env} {s : State} {m : MethodId} {below : List Frame} {meth : Method} {c : Code} (l : Launch) {b L : Nat} {xs : Nat → Int32} (hL : L ≤ 3072) (C0 : lw_At p s m meth c b L xs) : W p l e room_1 s m #[Value.ref b] below meth c s.heap [] 0 0 (lw_Z below #[Value.ref b] s) (entryFrame m ([Value.ref b] : List Value).toArray 4) := by
  obtain ⟨hx, hb, hr, hml, hown, hts0, hX, hbl, hlocks, hgv⟩ := id C0
  have hts : ∀ w ∈ TBL, w.before #[Value.ref b] s = true := fun w h => hts0 w (List.mem_filter.mp h).1
  obtain ⟨k0, iS0, hKn0⟩ := u_known (C := RX0) (T := TX0) (N := 4) (n := 4) hts inT_X0 (hts (.instantiable RX0 4) tw_55)
  obtain ⟨k1, iS1, hKn1⟩ := u_known (C := RX1) (T := TX1) (N := 5) (n := 5) hts inT_X1 (hts (.instantiable RX1 5) tw_40)
  obtain ⟨k2, iS2, hKn2⟩ := u_known (C := RX2) (T := TX2) (N := 5) (n := 5) hts inT_X2 (hts (.instantiable RX2 5) tw_73)
  obtain ⟨k3, iS3, hKn3⟩ := u_known (C := RX3) (T := TX3) (N := 2) (n := 2) hts inT_X3 (hts (.instantiable RX3 2) tw_92)
  obtain ⟨k4, iS4, hKn4⟩ := u_known (C := RX4) (T := TX4) (N := 4) (n := 4) hts inT_X4 (hts (.instantiable RX4 4) tw_26)
  obtain ⟨k5, iS5, hKn5⟩ := u_known (C := RX5) (T := TX5) (N := 3) (n := 3) hts inT_X5 (hts (.instantiable RX5 3) tw_164)
  obtain ⟨k6, iS6, hKn6⟩ := u_known (C := RX6) (T := TX6) (N := 6) (n := 6) hts inT_X6 (hts (.instantiable RX6 6) tw_68)
  obtain ⟨k7, iS7, hKn7⟩ := u_known (C := RX7) (T := TX7) (N := 5) (n := 5) hts inT_X7 (hts (.instantiable RX7 5) tw_114)
  obtain ⟨k8, iS8, hKn8⟩ := u_known (C := RX8) (T := TX8) (N := 8) (n := 8) hts inT_X8 (hts (.instantiable RX8 8) tw_142)
  obtain ⟨k9, iS9, hKn9⟩ := u_known (C := RX9) (T := TX9) (N := 3) (n := 3) hts inT_X9 (hts (.instantiable RX9 3) tw_131)
  obtain ⟨k10, iS10, hKn10⟩ := u_known (C := RX10) (T := TX10) (N := 9) (n := 9) hts inT_X10 (hts (.instantiable RX10 9) tw_18)
  obtain ⟨k11, iS11, hKn11⟩ := u_known (C := RX11) (T := TX11) (N := 39) (n := 39) hts inT_X11 (hts (.instantiable RX11 39) tw_521)
  obtain ⟨cI, hcI, hfI⟩ := arr_known (hts _ tw_38)
  obtain ⟨cZ, hcZ, hfZ⟩ := arr_known (hts _ tw_604)
  obtain ⟨dC, dI, hKc⟩ : ∃ (dC : Nat → ClassId) (dI : Nat → Nat → Nat), ∀ (k : Nat) (q : vw_C), vwCl[k]? = some q → u_Kn s q.1 q.2.1 q.2.2 (dC k) (dI k) := by
    refine ⟨fun k => ([k0, k1, k2, k3, k4, k5, k6, k7, k8, k9, k10, k11] : List ClassId).getD k k0, fun k => ([iS0, iS1, iS2, iS3, iS4, iS5, iS6, iS7, iS8, iS9, iS10, iS11] : List (Nat → Nat)).getD k iS0, ?_⟩
    intro k q hq
    match k, hq with
    | 0, hq => cases hq; exact hKn0
    | 1, hq => cases hq; exact hKn1
    | 2, hq => cases hq; exact hKn2
    | 3, hq => cases hq; exact hKn3
    | 4, hq => cases hq; exact hKn4
    | 5, hq => cases hq; exact hKn5
    | 6, hq => cases hq; exact hKn6
    | 7, hq => cases hq; exact hKn7
    | 8, hq => cases hq; exact hKn8
    | 9, hq => cases hq; exact hKn9
    | 10, hq => cases hq; exact hKn10
    | 11, hq => cases hq; exact hKn11
    | k + 12, hq => simp [vwCl] at hq
  obtain ⟨G, hG⟩ : ∃ G : GT, G = ((dC, dI), (fun _ => 0), cI, cZ, s.heap.size) := ⟨_, rfl⟩
  have hZ : zG G = s.heap.size := by rw [hG]; rfl
  have hK : va_K G.1 vwCl (tyG G) s := by
    rw [hG]
    refine ⟨hKc, fun k q h => ?_⟩
    match k, h with
    | 0, h => cases h; exact ⟨hcI, hfI⟩
    | 1, h => cases h; exact ⟨hcZ, hfZ⟩
    | k + 2, h => simp at h
  have hnw : nwOK s := nwOK.of hts0
  have Y : Cy G p s m #[Value.ref b] meth c cL_law 4 RL (some .boolean) := ⟨hx, hb, hml, hown, hts, hK, by rw [hZ]; exact Nat.le_refl _, hnw, hr, hlocks⟩
  have hl := lv_entry ([.ref b]) (n := 4) (Nat.le_of_ble_eq_true rfl)
  rw [lg_entry_eq]
  generalize (lg_sl ([.ref b]) ++ List.replicate (4 - (lg_sl ([.ref b])).length) Slot.unset).toArray = ls at hl ⊢
  have hl : lv_has ls 4 [(0, .ref b)] := hl
  have hQ : Hq G [] [] s s.heap [] := ⟨fun k q h => by simp at h, ⟨fun i j p q h => by simp at h, fun k q h => by simp at h⟩, va_S.rf⟩
  refine n_new Y hQ cf_X10 tw_17 tw_18 tw_1 [.null, .null, .null, .null, .null, .null, .null, .null, .null] (fun j hj => by rcases (show j = 0 ∨ j = 1 ∨ j = 2 ∨ j = 3 ∨ j = 4 ∨ j = 5 ∨ j = 6 ∨ j = 7 ∨ j = 8 by omega) with rfl | rfl | rfl | rfl | rfl | rfl | rfl | rfl | rfl <;> rfl) (Nat.le_of_ble_eq_true rfl) (Nat.le_of_ble_eq_true rfl) dL_law_0 (fun q0 H hQ => ?_)
  refine W.widen (k := 1) (n := 9) (by decide) (by decide) ?_
  refine lv_dup hx hb dL_law_3 rfl ?_
  have hQ2 : Hq G [] [(q0, .inr (10, [.null, .null, .null, .null, .null, .null, .null, .null, .null]))] s H [] := hQ
  refine n_callI Y hQ2 (ct_X10 l G q0) tw_21 tw_19 tw_20 tw_1 rfl (by decide +kernel) ⟨by decide, by decide⟩ hl.1 (Nat.le_of_ble_eq_true rfl) ⟨Nat.le_of_ble_eq_true rfl, Nat.le_of_ble_eq_true rfl⟩ dL_law_4 (fun H locs hp hS => ?_)
  obtain ⟨b0, g0, g1, hg0, hg1, hp, hd⟩ := hp
  have hQ : Hq G [] [(q0, .inr (10, [.ref (b0 1), .ref (b0 5), .ref (b0 6), .ref (b0 10), .ref (b0 18), .ref (b0 21), .ref (b0 27), .ref (b0 30), .ref (b0 39)])), (b0 1, .inr (4, [.ref (b0 2), .ref (b0 3), .ref (b0 4), .int 0])), (b0 2, .inl (G.2.2.1, 8, .inl (fun _ => 0))), (b0 3, .inl (G.2.2.1, 64, .inl (fun _ => 0))), (b0 4, .inl (G.2.2.1, 64, .inl (fun _ => 0))), (b0 5, .inr (1, [.int 7, .int 1, .int 0, .int 5, .int 1])), (b0 6, .inr (0, [.ref (b0 7), .ref (b0 8), .ref (b0 9), .int 0])), (b0 7, .inl (G.2.2.1, 300, .inl (fun _ => 0))), (b0 8, .inl (G.2.2.1, 300, .inl (fun _ => 0))), (b0 9, .inl (G.2.2.1, 300, .inl (fun _ => 0))), (b0 10, .inr (6, [.ref (b0 11), .ref (b0 14), .ref (b0 17), .int 0, .int 0, .int 0])), (b0 11, .inr (2, [.ref (b0 12), .ref (b0 13), .int 0, .int 0, .int 0])), (b0 12, .inl (G.2.2.1, 8, .inl g0)), (b0 13, .inl (G.2.2.1, 64, .inl (fun _ => 0))), (b0 14, .inr (3, [.ref (b0 15), .ref (b0 16)])), (b0 15, .inl (G.2.2.1, 64, .inl (fun _ => 0))), (b0 16, .inl (G.2.2.1, 256, .inl (fun _ => 0))), (b0 17, .inl (G.2.2.1, 224, .inl (fun _ => 0))), (b0 18, .inr (3, [.ref (b0 19), .ref (b0 20)])), (b0 19, .inl (G.2.2.1, 64, .inl (fun _ => 0))), (b0 20, .inl (G.2.2.1, 256, .inl (fun _ => 0))), (b0 21, .inr (7, [.ref (b0 22), .ref (b0 25), .ref (b0 26), .int 0, .int 0])), (b0 22, .inr (2, [.ref (b0 23), .ref (b0 24), .int 0, .int 0, .int 0])), (b0 23, .inl (G.2.2.1, 8, .inl g1)), (b0 24, .inl (G.2.2.1, 64, .inl (fun _ => 0))), (b0 25, .inl (G.2.2.1, 8, .inl (fun _ => 0))), (b0 26, .inl (G.2.2.1, 8, .inl (fun _ => 0))), (b0 27, .inr (9, [.ref (b0 28), .ref (b0 29), .int 0])), (b0 28, .inl (G.2.2.1, 8, .inl (fun _ => 0))), (b0 29, .inl (G.2.2.1, 8, .inl (fun _ => 0))), (b0 30, .inr (8, [.ref (b0 31), .ref (b0 34), .ref (b0 35), .ref (b0 36), .ref (b0 37), .int 0, .ref (b0 38), .int 0])), (b0 31, .inr (9, [.ref (b0 32), .ref (b0 33), .int 0])), (b0 32, .inl (G.2.2.1, 8, .inl (fun _ => 0))), (b0 33, .inl (G.2.2.1, 8, .inl (fun _ => 0))), (b0 34, .inl (G.2.2.1, 8, .inl (fun _ => 0))), (b0 35, .inl (G.2.2.1, 12, .inl (fun _ => 0))), (b0 36, .inl (G.2.2.1, 12, .inl (fun _ => 0))), (b0 37, .inl (G.2.2.1, 12, .inl (fun _ => 0))), (b0 38, .inl (G.2.2.1, 12, .inl (fun _ => 0))), (b0 39, .inr (5, [.ref (b0 40), .ref (b0 41), .int 0])), (b0 40, .inl (G.2.2.1, 300, .inl (fun _ => 0))), (b0 41, .inl (G.2.2.1, 300, .inl (fun _ => 0)))] s H locs := ⟨hp, hd, hS⟩
  refine W.widen (k := 42) (n := 2812) (by decide) (by decide) ?_
  refine lv_astore_n (lv' := [(1, .ref q0), (0, .ref b)]) hx hb dL_law_7 rfl hl (by decide) rfl (fun ls hl => ?_)
  refine n_new Y hQ cf_X11 tw_520 tw_521 tw_13 [.int 0, .int 0, .null, .null, .int 0, .null, .null, .null, .null, .null, .int 0, .int 0, .int 0, .int 0, .int 0, .null, .null, .null, .null, .int 0, .int 0, .int 0, .null, .null, .null, .null, .int 0, .null, .int 0, .null, .null, .null, .int 0, .null, .int 0, .null, .null, .null, .int 0] (fun j hj => by rcases (show j = 0 ∨ j = 1 ∨ j = 2 ∨ j = 3 ∨ j = 4 ∨ j = 5 ∨ j = 6 ∨ j = 7 ∨ j = 8 ∨ j = 9 ∨ j = 10 ∨ j = 11 ∨ j = 12 ∨ j = 13 ∨ j = 14 ∨ j = 15 ∨ j = 16 ∨ j = 17 ∨ j = 18 ∨ j = 19 ∨ j = 20 ∨ j = 21 ∨ j = 22 ∨ j = 23 ∨ j = 24 ∨ j = 25 ∨ j = 26 ∨ j = 27 ∨ j = 28 ∨ j = 29 ∨ j = 30 ∨ j = 31 ∨ j = 32 ∨ j = 33 ∨ j = 34 ∨ j = 35 ∨ j = 36 ∨ j = 37 ∨ j = 38 by omega) with rfl | rfl | rfl | rfl | rfl | rfl | rfl | rfl | rfl | rfl | rfl | rfl | rfl | rfl | rfl | rfl | rfl | rfl | rfl | rfl | rfl | rfl | rfl | rfl | rfl | rfl | rfl | rfl | rfl | rfl | rfl | rfl | rfl | rfl | rfl | rfl | rfl | rfl | rfl <;> rfl) (Nat.le_of_ble_eq_true rfl) (Nat.le_of_ble_eq_true rfl) dL_law_8 (fun q1 H hQ => ?_)
  refine W.widen (k := 43) (n := 2851) (by decide) (by decide) ?_
  refine lv_dup hx hb dL_law_11 rfl ?_
  have hQ2 : Hq G [(q0, .inr (10, [.ref (b0 1), .ref (b0 5), .ref (b0 6), .ref (b0 10), .ref (b0 18), .ref (b0 21), .ref (b0 27), .ref (b0 30), .ref (b0 39)])), (b0 1, .inr (4, [.ref (b0 2), .ref (b0 3), .ref (b0 4), .int 0])), (b0 2, .inl (G.2.2.1, 8, .inl (fun _ => 0))), (b0 3, .inl (G.2.2.1, 64, .inl (fun _ => 0))), (b0 4, .inl (G.2.2.1, 64, .inl (fun _ => 0))), (b0 5, .inr (1, [.int 7, .int 1, .int 0, .int 5, .int 1])), (b0 6, .inr (0, [.ref (b0 7), .ref (b0 8), .ref (b0 9), .int 0])), (b0 7, .inl (G.2.2.1, 300, .inl (fun _ => 0))), (b0 8, .inl (G.2.2.1, 300, .inl (fun _ => 0))), (b0 9, .inl (G.2.2.1, 300, .inl (fun _ => 0))), (b0 10, .inr (6, [.ref (b0 11), .ref (b0 14), .ref (b0 17), .int 0, .int 0, .int 0])), (b0 11, .inr (2, [.ref (b0 12), .ref (b0 13), .int 0, .int 0, .int 0])), (b0 12, .inl (G.2.2.1, 8, .inl g0)), (b0 13, .inl (G.2.2.1, 64, .inl (fun _ => 0))), (b0 14, .inr (3, [.ref (b0 15), .ref (b0 16)])), (b0 15, .inl (G.2.2.1, 64, .inl (fun _ => 0))), (b0 16, .inl (G.2.2.1, 256, .inl (fun _ => 0))), (b0 17, .inl (G.2.2.1, 224, .inl (fun _ => 0))), (b0 18, .inr (3, [.ref (b0 19), .ref (b0 20)])), (b0 19, .inl (G.2.2.1, 64, .inl (fun _ => 0))), (b0 20, .inl (G.2.2.1, 256, .inl (fun _ => 0))), (b0 21, .inr (7, [.ref (b0 22), .ref (b0 25), .ref (b0 26), .int 0, .int 0])), (b0 22, .inr (2, [.ref (b0 23), .ref (b0 24), .int 0, .int 0, .int 0])), (b0 23, .inl (G.2.2.1, 8, .inl g1)), (b0 24, .inl (G.2.2.1, 64, .inl (fun _ => 0))), (b0 25, .inl (G.2.2.1, 8, .inl (fun _ => 0))), (b0 26, .inl (G.2.2.1, 8, .inl (fun _ => 0))), (b0 27, .inr (9, [.ref (b0 28), .ref (b0 29), .int 0])), (b0 28, .inl (G.2.2.1, 8, .inl (fun _ => 0))), (b0 29, .inl (G.2.2.1, 8, .inl (fun _ => 0))), (b0 30, .inr (8, [.ref (b0 31), .ref (b0 34), .ref (b0 35), .ref (b0 36), .ref (b0 37), .int 0, .ref (b0 38), .int 0])), (b0 31, .inr (9, [.ref (b0 32), .ref (b0 33), .int 0])), (b0 32, .inl (G.2.2.1, 8, .inl (fun _ => 0))), (b0 33, .inl (G.2.2.1, 8, .inl (fun _ => 0))), (b0 34, .inl (G.2.2.1, 8, .inl (fun _ => 0))), (b0 35, .inl (G.2.2.1, 12, .inl (fun _ => 0))), (b0 36, .inl (G.2.2.1, 12, .inl (fun _ => 0))), (b0 37, .inl (G.2.2.1, 12, .inl (fun _ => 0))), (b0 38, .inl (G.2.2.1, 12, .inl (fun _ => 0))), (b0 39, .inr (5, [.ref (b0 40), .ref (b0 41), .int 0])), (b0 40, .inl (G.2.2.1, 300, .inl (fun _ => 0))), (b0 41, .inl (G.2.2.1, 300, .inl (fun _ => 0)))] [(q1, .inr (11, [.int 0, .int 0, .null, .null, .int 0, .null, .null, .null, .null, .null, .int 0, .int 0, .int 0, .int 0, .int 0, .null, .null, .null, .null, .int 0, .int 0, .int 0, .null, .null, .null, .null, .int 0, .null, .int 0, .null, .null, .null, .int 0, .null, .int 0, .null, .null, .null, .int 0]))] s H locs := hQ
  refine n_callI Y hQ2 (ct_X11 l G q1) tw_524 tw_522 tw_523 tw_13 rfl (by decide +kernel) ⟨by decide, by decide⟩ hl.1 (Nat.le_of_ble_eq_true rfl) ⟨Nat.le_of_ble_eq_true rfl, Nat.le_of_ble_eq_true rfl⟩ dL_law_12 (fun H locs hp hS => ?_)
  obtain ⟨b1, g2, hg2, hp, hd⟩ := hp
  refine W.widen (k := 66) (n := 7035) (by decide) (by decide) ?_
  refine lv_astore_n (lv' := [(2, .ref q1), (1, .ref q0), (0, .ref b)]) hx hb dL_law_15 rfl hl (by decide) rfl (fun ls hl => ?_)
  refine lv_iconst (v := 0) hx hb dL_law_16 (by decide) ?_
  refine lv_istore_n (lv' := [(3, .int 0), (2, .ref q1), (1, .ref q0), (0, .ref b)]) hx hb dL_law_17 rfl hl (by decide) rfl (fun ls hl => ?_)
  obtain ⟨F, hF⟩ : ∃ F : GT, F = ((dC, dI), (fun k => ([q0, b0 1, b0 2, b0 3, b0 4, b0 5, b0 6, b0 7, b0 8, b0 9, b0 10, b0 11, b0 12, b0 13, b0 14, b0 15, b0 16, b0 17, b0 18, b0 19, b0 20, b0 21, b0 22, b0 23, b0 24, b0 25, b0 26, b0 27, b0 28, b0 29, b0 30, b0 31, b0 32, b0 33, b0 34, b0 35, b0 36, b0 37, b0 38, b0 39, b0 40, b0 41, q1, b1 1, b1 2, b1 3, b1 4, b1 5, b1 6, b1 7, b1 8, b1 9, b1 10, b1 11, b1 12, b1 13, b1 14, b1 15, b1 16, b1 17, b1 18, b1 19, b1 20, b1 21, b1 22, b1 23] : List Nat).getD k 0), cI, cZ, s.heap.size) := ⟨_, rfl⟩
  have hp : va_P F.1 vwCl (wd F (s0 g0 g1 g2)) H := by rw [hF]; rw [hG] at hp; exact hp
  have hd : va_D (Fr F) (wd F (s0 g0 g1 g2)) := by rw [hF]; rw [hG] at hd; exact hd
  have hS : va_S (Fr F) s.heap H locs := by rw [hF]; rw [hG] at hS; exact hS
  have hZF : zG F = s.heap.size := by rw [hF]; rfl
  have hKF : va_K F.1 vwCl (tyG F) s := by rw [hF]; rw [hG] at hK; exact hK
  have hadF : adOK F := ⟨fun i j hi hj he => hd.1 i j _ _ (wd_get hi) (wd_get hj) he, fun k hk => hd.2 k _ (wd_get hk)⟩
  have X : Cx F p s m #[Value.ref b] meth c cL_law 4 RL (some .boolean) := ⟨hx, hb, hml, hown, hts, hKF, by rw [hZF]; exact Nat.le_refl _, hnw, hadF, hr, hlocks⟩
  have e0 : aG F 0 = q0 := by rw [hF]; rfl
  have e42 : aG F 42 = q1 := by rw [hF]; rfl
  refine law_loop hO X hZF hX hbl hL (L + 1) 0 (by omega) (by omega) _ H locs ls (hI0 g0 g1 g2 hg0 hg1 hg2) ⟨hp, hS⟩ ?_
  rw [e0, e42]
  exact lv_sub hl [3, 2, 1, 0] rfl
