/-- the mask of a room: what one comes to -/
theorem mask_eq {P : Nat → Prop} {x m m' : Nat} (h : ∀ y, m.testBit y = true ↔ Rch P x y) (h' : ∀ y, m'.testBit y = true ↔ Rch P x y) : m = m' := by
  apply Nat.eq_of_testBit_eq
  intro y
  cases q : m.testBit y
  · cases q' : m'.testBit y
    · rfl
    · rw [(h y).mpr ((h' y).mp q')] at q; cases q
  · rw [(h' y).mpr ((h y).mp q)]
theorem Rch.cg {P P' : Nat → Prop} {x y : Nat} (h : ∀ r, r < 256 → (P r ↔ P' r)) : Rch P x y ↔ Rch P' x y :=
  ⟨fun q S h1 h2 => q S h1 (fun r hr hp => h2 r hr ((h r hr).mp hp)), fun q S h1 h2 => q S h1 (fun r hr hp => h2 r hr ((h r hr).mpr hp))⟩
theorem hcm_cg {ro ro' : Nat → Int32} {m : Nat} (k : Nat) (h : ∀ j, j < k → ro' j = ro j) : hcm ro' m k = hcm ro m k := cnt_ext k (fun j hj => by unfold hcb; rw [h j hj])
theorem IR.b {n R : Nat} {r r' : Nat → Int32} (h : IR n R r r') : ∀ j, j < 8 → r j = (-1) ∨ ∃ b, b < R ∧ r j = nI b := fun j hj => (h.2.1 j hj).2.imp id (fun q => q.2)
theorem cs27_C {τ τ' : Hp} (h : Sx cs27 τ τ') : Sx cC τ τ' := h.mono (fun k j q => by
  unfold cs27
  unfold cC at q
  simp only [Bool.or_eq_false_iff, Bool.and_eq_false_iff, beq_eq_false_iff_ne] at q ⊢
  omega)
theorem c58_M {τ τ' : Hp} (h : Sx (fun k _ => k == 58) τ τ') : Sx cM τ τ' := h.mono (fun k j q => by
  unfold cM at q
  simp only [Bool.or_eq_false_iff, Bool.and_eq_false_iff, beq_eq_false_iff_ne] at q ⊢
  omega)
theorem ok_reach (N : Nat) (hN : 1000 ≤ N) : op_reach N Inv := by
  intro v1
  refine ok_read (fun τ hI => ?_)
  obtain ⟨n, t, wi, le, rp, sp, mk, R, hH, hT, hB, hL, hP, hS, hO⟩ := id hI
  obtain ⟨hn, h1, h2, h3⟩ := hH
  have hIR := hP.2.2.2.2.2.1
  by_cases hw : ∃ a, a < n ∧ v1 = nI a
  · obtain ⟨h, hh, rfl⟩ := hw
    rcases hIR.b h (by omega) with q | ⟨x, hx, q⟩
    · refine ⟨(-1), τ, ?_, Sx.rf, fun υ _ hs => ⟨_, ?_, sxT υ⟩⟩
      · unfold f_WP_reach
        show obd (f_Nt_isHost N 1 τ _) _ = _
        rw [host_y hn h1 hh, obd_s, if_neg (by decide), ogd_t _ (inb_n (by omega) (by omega)), nI_clamp (by omega)]
        show (if τ 12 h = (-1) then _ else _) = _
        rw [if_pos q]
      · unfold f_Mo_reach
        rw [mth, mhost_y (n := n) (τ := upR υ 42 (upd (υ 42) 0 0)) hn ((hs 42 1 rfl).trans h2) hh, obd_s, if_neg (by decide), ogd_t _ (inb_n (by omega) (by omega)), nI_clamp (by omega)]
        show (if υ 44 h = (-1) then _ else _) = _
        rw [hs 44 h rfl, (hIR.2.1 h (by omega)).1, if_pos q]
    · have hR := hIR.1
      obtain ⟨τ1, f1, f2, f3, f4, m, f5, f6⟩ := follow_y (N := N) hN hn hP
      refine ⟨nI (hcm (τ 12) (m x) 8) - 1, τ1, ?_, cs27_C f2, fun υ hυ hs => ?_⟩
      · unfold f_WP_reach
        show obd (f_Nt_isHost N 1 τ _) _ = _
        rw [host_y hn h1 hh, obd_s, if_neg (by decide), ogd_t _ (inb_n (by omega) (by omega)), nI_clamp (by omega)]
        show (if τ 12 h = (-1) then _ else obd (f_Sp_follow N 27 10 τ) _) = _
        rw [q, if_neg (nm1_ne (by omega)), f1, obd_s, ogd_t _ (inb_n (by omega) (by omega))]
        show obd (f_Sp_othersFrom N 27 τ1 (τ1 12 h)) _ = _
        rw [f2 12 h rfl, q, others_27 hN hR (by omega) f3 (f5 x (by omega)).2 (f5 x (by omega)).1 f4, obd_s, ss_hc hR 8 hIR.b]
      · have hu := (cA_C hs).tr (cA_M (sxT υ))
        obtain ⟨υ2, o1, o2, o3⟩ := opens_y (N := N) (τ := upR υ 42 (upd (υ 42) 0 0)) hN
        have hu2 := hu.tr (cA_M (c58_M o2))
        have w57 : υ2 57 = τ 57 := hu2.row 57 (fun _ => rfl)
        have w44 : υ2 44 = τ 44 := hu2.row 44 (fun _ => rfl)
        have w12 : υ2 12 = τ 12 := hu2.row 12 (fun _ => rfl)
        obtain ⟨m2, a1, a2, a3⟩ := reachOf_y (N := N) (τ := υ2) hN hn ((hu2 42 1 rfl).trans h2) (by rw [w12, w44]; exact hIR) (by rw [w57]; exact hP.2.2.2.2.2.2.1.1) (fun r hr => Or.inl (o3 r hr)) hh (by rw [w44, (hIR.2.1 h (by omega)).1]; exact q) (show x < 8 by omega)
        have em : m2 = m x := mask_eq (P := fun r => τ 57 r = 1) (x := x) (fun y => (a2 y).trans (Rch.cg (fun r hr => by
          unfold Pw; rw [w57, o3 r hr]; exact ⟨fun q => q.1, fun q => ⟨q, rfl⟩⟩))) (fun y => f6 x y hx)
        refine ⟨υ2, ?_, (sxT υ).tr (c58_M o2)⟩
        unfold f_Mo_reach
        rw [mth, mhost_y (n := n) (τ := upR υ 42 (upd (υ 42) 0 0)) hn ((hs 42 1 rfl).trans h2) hh, obd_s, if_neg (by decide), ogd_t _ (inb_n (by omega) (by omega)), nI_clamp (by omega)]
        show (if υ 44 h = (-1) then _ else _) = _
        rw [hs 44 h rfl, (hIR.2.1 h (by omega)).1, q, if_neg (nm1_ne (by omega)), o1, obd_s, a3, obd_s, em, w44, hcm_cg 8 (fun j hj => (hIR.2.1 j hj).1)]
  · refine ⟨(-1), τ, ?_, Sx.rf, fun υ _ hs => ⟨_, ?_, sxT υ⟩⟩
    · unfold f_WP_reach
      show obd (f_Nt_isHost N 1 τ _) _ = _
      rw [host_n hn h1 hw, obd_s, if_pos rfl]
    · unfold f_Mo_reach
      rw [mth, mhost_n (n := n) (τ := upR υ 42 (upd (υ 42) 0 0)) hn ((hs 42 1 rfl).trans h2) hw, obd_s, if_pos rfl]
/-- a host's reach and one, 0 in no room -/
def Vh (ro : Nat → Int32) (v : Nat → Nat) (h : Nat) : Nat := if ro h = (-1) then 0 else v (ro h).toNatClampNeg
theorem mxv_ge {v : Nat → Nat} : ∀ k j, j < k → v j ≤ mxv v k
  | k + 1, j, h => by
    rw [mxv]
    rcases Nat.lt_or_ge j k with q | q
    · have := mxv_ge (v := v) k j q; omega
    · have : j = k := by omega
      subst this; omega
theorem mxv_le {v : Nat → Nat} {B : Nat} : ∀ k, (∀ j, j < k → v j ≤ B) → mxv v k ≤ B
  | 0, _ => Nat.zero_le _
  | k + 1, h => by
    have h1 := mxv_le k (fun j hj => h j (by omega))
    have h2 := h k (by omega)
    rw [mxv]; omega
theorem mxv_at {v : Nat → Nat} : ∀ k, 0 < mxv v k → ∃ j, j < k ∧ v j = mxv v k ∧ ∀ i, i < j → v i < mxv v k
  | 0, h => absurd h (Nat.lt_irrefl 0)
  | k + 1, h => by
    rw [mxv] at h ⊢
    by_cases q : mxv v k < v k
    · refine ⟨k, by omega, by omega, fun i hi => ?_⟩
      have := mxv_ge (v := v) k i hi; omega
    · obtain ⟨j, h1, h2, h3⟩ := mxv_at (v := v) k (by omega)
      exact ⟨j, by omega, by omega, fun i hi => by have := h3 i hi; omega⟩
theorem mxv_cg {v v' : Nat → Nat} : ∀ k, (∀ j, j < k → v j = v' j) → mxv v k = mxv v' k
  | 0, _ => rfl
  | k + 1, h => by rw [mxv, mxv, mxv_cg k (fun j hj => h j (by omega)), h k (by omega)]
theorem Vh_mx {n R : Nat} {ro ro' : Nat → Int32} {v : Nat → Nat} (hn : n ≤ 8) (h : IR n R ro ro') : mxv (Vh ro v) n = mxv v R := by
  have hR := h.1
  apply Nat.le_antisymm
  · refine mxv_le n (fun j hj => ?_)
    unfold Vh
    rcases h.b j (by omega) with q | ⟨b, hb, q⟩
    · rw [if_pos q]; exact Nat.zero_le _
    · rw [q, if_neg (nm1_ne (by omega)), nI_clamp (by omega)]; exact mxv_ge R b hb
  · refine mxv_le R (fun x hx => ?_)
    obtain ⟨j, hj, q⟩ := h.2.2 x hx
    have := mxv_ge (v := Vh ro v) n j hj
    unfold Vh at this
    rw [q, if_neg (nm1_ne (by omega)), nI_clamp (by omega)] at this
    exact this
def At (V : Nat → Nat) : Nat → Int32
  | 0 => (-1)
  | i + 1 => if mxv V i < V i then nI i else At V i
theorem At_at {V : Nat → Nat} : ∀ k j, j < k → V j = mxv V k → (∀ i, i < j → V i < mxv V k) → 0 < mxv V k → At V k = nI j
  | k + 1, j, h1, h2, h3, h4 => by
    show (if mxv V k < V k then nI k else At V k) = nI j
    rw [mxv] at h2 h3 h4
    by_cases q : mxv V k < V k
    · rw [if_pos q]
      have : j = k := by
        rcases Nat.lt_or_ge j k with q2 | q2
        · have := mxv_ge (v := V) k j q2; omega
        · omega
      rw [this]
    · rw [if_neg q]
      have hjk : j < k := by
        rcases Nat.lt_or_ge j k with q2 | q2
        · exact q2
        · have hj : j = k := by omega
          subst hj
          obtain ⟨i, i1, i2, -⟩ := mxv_at (v := V) j (by omega)
          have := h3 i i1; omega
      exact At_at k j hjk (by omega) (fun i hi => by have := h3 i hi; omega) (by omega)
theorem At_0 {V : Nat → Nat} : ∀ k, mxv V k = 0 → At V k = (-1)
  | 0, _ => rfl
  | k + 1, h => by
    show (if mxv V k < V k then nI k else At V k) = _
    rw [mxv] at h
    rw [if_neg (by omega)]; exact At_0 k (by omega)
theorem At_cg {V V' : Nat → Nat} : ∀ k, (∀ j, j < k → V j = V' j) → At V k = At V' k
  | 0, _ => rfl
  | k + 1, h => by rw [At, At, mxv_cg k (fun j hj => h j (by omega)), h k (by omega), At_cg k (fun j hj => h j (by omega))]
/-- the model's spreads: over all hosts in rooms -/
theorem spreads_y {N n R : Nat} {τ : Hp} {v : Nat → Nat} (hN : 1000 ≤ N) (hn : n ≤ 8) (h1 : τ 42 1 = nI n) (hIR : IR n R (τ 12) (τ 44)) (hv : ∀ h x, h < n → x < R → τ 44 h = nI x → ∀ υ : Hp, Sx (fun k j => k == 42 && j == 28) τ υ → 1 ≤ v x ∧ v x < 9 ∧ f_Mo_reachOf N 42 υ (nI h) = some (nI (v x) - 1, υ)) : ∃ τ', f_Mo_spreads N 42 τ = some (nI (mxv v R) - 1, τ') ∧ Sx (fun k j => k == 42 && j == 28) τ τ' ∧ τ' 42 28 = At (Vh (τ 44) v) n := by
  have hR := hIR.1
  have hV8 : ∀ h, h < n → Vh (τ 44) v h < 9 := fun h hh => by
    unfold Vh
    rcases hIR.b h (by omega) with q | ⟨x, hx, q⟩
    · rw [(hIR.2.1 h (by omega)).1, if_pos q]; omega
    · rw [(hIR.2.1 h (by omega)).1, q, if_neg (nm1_ne (by omega)), nI_clamp (by omega)]
      exact (hv h x hh hx ((hIR.2.1 h (by omega)).1.trans q) τ Sx.rf).2.1
  have emx : mxv (Vh (τ 44) v) n = mxv v R := by
    rw [← Vh_mx (v := v) hn hIR]
    exact mxv_cg n (fun j hj => by unfold Vh; rw [(hIR.2.1 j (by omega)).1])
  rw [← emx]
  unfold f_Mo_spreads
  rw [ilet_s]
  refine lup (fun n' (s : Hp × Int32 × Int32) => f_Mo_spreads_L9 N 42 n' s.1 s.2.1 s.2.2) (fun i s => i ≤ n ∧ (Sx (fun k j => k == 42 && j == 28) τ s.1 ∧ s.1 42 28 = At (Vh (τ 44) v) i) ∧ s.2.1 = nI (mxv (Vh (τ 44) v) i) - 1 ∧ s.2.2 = nI i) (fun z => ∃ τ', z = some (nI (mxv (Vh (τ 44) v) n) - 1, τ') ∧ Sx (fun k j => k == 42 && j == 28) τ τ' ∧ τ' 42 28 = At (Vh (τ 44) v) n) n ?_ ?_ N 0 (upR τ 42 (upd (τ 42) 28 (-1)), (-1), 0) (Nat.zero_le _) (by omega) ⟨Nat.zero_le _, ⟨Sx.ud rfl, rfl⟩, rfl, rfl⟩
  · rintro n' ⟨υ, s1, s2⟩ ⟨-, ⟨g1, g2⟩, g3, g4⟩
    dsimp only at g1 g2 g3 g4 ⊢
    subst g3; subst g4
    refine ⟨υ, ?_, g1, g2⟩
    show f_Mo_spreads_L9b N 42 _ υ _ _ = _
    unfold f_Mo_spreads_L9b
    rw [g1 42 1 rfl, h1, if_pos (nI_le (Nat.le_refl _) (by omega))]
  · rintro n' i ⟨υ, s1, s2⟩ hi ⟨-, ⟨g1, g2⟩, g3, g4⟩
    dsimp only at g1 g2 g3 g4 ⊢
    subst g3; subst g4
    have hX := mxv_lt (v := Vh (τ 44) v) (B := 9) (by omega) i (fun x hx => hV8 x (by omega))
    refine Or.inr ?_
    show ∃ s' : Hp × Int32 × Int32, f_Mo_spreads_L9b N 42 _ υ _ _ = _ ∧ _
    unfold f_Mo_spreads_L9b
    rw [g1 42 1 rfl, h1, if_neg (nI_ge hi (by omega)), ogd_t _ (inb_n (by omega) (by omega)), nI_clamp (by omega)]
    show ∃ s' : Hp × Int32 × Int32, (if υ 44 i = (-1) then _ else _) = _ ∧ _
    rw [g1 44 i rfl]
    rcases hIR.b i (by omega) with q | ⟨x, hx, q⟩
    · have q : τ 44 i = (-1) := (hIR.2.1 i (by omega)).1.trans q
      have eV : Vh (τ 44) v i = 0 := if_pos q
      rw [if_pos q, ilet_s, nI_1]
      refine ⟨(υ, nI (mxv (Vh (τ 44) v) i) - 1, nI (i + 1)), rfl, by omega, ⟨g1, ?_⟩, ?_, rfl⟩
      · show υ 42 28 = (if mxv (Vh (τ 44) v) i < Vh (τ 44) v i then nI i else At (Vh (τ 44) v) i)
        rw [eV, if_neg (by omega)]; exact g2
      · show _ = nI (max (mxv (Vh (τ 44) v) i) (Vh (τ 44) v i)) - 1
        rw [eV, Nat.max_eq_left (Nat.zero_le _)]
    · have q : τ 44 i = nI x := (hIR.2.1 i (by omega)).1.trans q
      obtain ⟨v1, v2, v3⟩ := hv i x hi hx q υ g1
      have eV : Vh (τ 44) v i = v x := by unfold Vh; rw [q, if_neg (nm1_ne (by omega)), nI_clamp (by omega)]
      have hcmp : (nI (mxv (Vh (τ 44) v) i) - 1 < nI (v x) - 1) ↔ mxv (Vh (τ 44) v) i < v x := by
        have key : ∀ a, a < 9 → ∀ b, b < 9 → (nI a - 1 < nI b - 1 ↔ a < b) := by decide +kernel
        exact key _ hX _ v2
      rw [q, if_neg (nm1_ne (by omega)), v3, obd_s]
      by_cases q3 : mxv (Vh (τ 44) v) i < v x
      · rw [if_pos (hcmp.mpr q3), ilet_s, ilet_s, nI_1]
        refine ⟨(upR υ 42 (upd (υ 42) 28 (nI i)), nI (v x) - 1, nI (i + 1)), rfl, by omega, ⟨g1.tr (Sx.ud rfl), ?_⟩, ?_, rfl⟩
        · show nI i = (if mxv (Vh (τ 44) v) i < Vh (τ 44) v i then nI i else At (Vh (τ 44) v) i)
          rw [eV, if_pos q3]
        · show _ = nI (max (mxv (Vh (τ 44) v) i) (Vh (τ 44) v i)) - 1
          rw [eV, Nat.max_eq_right (by omega)]
      · rw [if_neg (fun e => q3 (hcmp.mp e)), ilet_s, nI_1]
        refine ⟨(υ, nI (mxv (Vh (τ 44) v) i) - 1, nI (i + 1)), rfl, by omega, ⟨g1, ?_⟩, ?_, rfl⟩
        · show υ 42 28 = (if mxv (Vh (τ 44) v) i < Vh (τ 44) v i then nI i else At (Vh (τ 44) v) i)
          rw [eV, if_neg q3]; exact g2
        · show _ = nI (max (mxv (Vh (τ 44) v) i) (Vh (τ 44) v i)) - 1
          rw [eV, Nat.max_eq_left (by omega)]
theorem hcm_pos {ro : Nat → Int32} {m h x : Nat} (hh : h < 8) (hx : x < 8) (e : ro h = nI x) (hm : m.testBit x = true) : 1 ≤ hcm ro m 8 := by
  have hb : hcb ro m h = true := by
    unfold hcb
    rw [e, nI_clamp (by omega), hm, show (nI x == (-1)) = false from beq_eq_false_iff_ne.mpr (nm1_ne (by omega))]; rfl
  have := cnt_ne (p := hcb ro m) hb 8 hh
  unfold hcm; omega
theorem firstWith_y {N R h0 : Nat} {τ : Hp} {v : Nat → Nat} (hN : 1000 ≤ N) (hR : R ≤ 8) (hb : ∀ j, j < 8 → τ 12 j = (-1) ∨ ∃ b, b < R ∧ τ 12 j = nI b) (hv : ∀ x, x < R → v x < 9 ∧ f_Sp_othersFrom N 27 τ (nI x) = some (nI (v x) - 1, τ)) (hh0 : h0 < 8) (h1 : Vh (τ 12) v h0 = mxv v R) (h2 : ∀ i, i < h0 → Vh (τ 12) v i < mxv v R) (h3 : 0 < mxv v R) : f_Sp_firstWith N 27 11 τ (nI (mxv v R) - 1) = some (nI h0, τ) := by
  have hM9 := mxv_lt (v := v) (B := 9) (by omega) R (fun x hx => (hv x hx).1)
  have heq : ∀ a, a < 9 → ∀ b, b < 9 → (nI a - 1 = nI b - 1 ↔ a = b) := by decide +kernel
  unfold f_Sp_firstWith
  refine lup (fun n (s : Int32) => f_Sp_firstWith_L2 N 27 11 n τ (nI (mxv v R) - 1) s) (fun i s => i ≤ h0 ∧ s = nI i) (fun z => z = some (nI h0, τ)) 8 ?_ ?_ N 0 0 (Nat.zero_le _) (by omega) ⟨Nat.zero_le _, rfl⟩
  · rintro n s ⟨g1, -⟩; omega
  · rintro n i s hi ⟨g1, rfl⟩
    have e : f_Sp_firstWith_L2 N 27 11 (n + 1) τ (nI (mxv v R) - 1) (nI i) = if τ 12 i = (-1) then f_Sp_firstWith_L2 N 27 11 n τ (nI (mxv v R) - 1) (nI (i + 1)) else obd (f_Sp_othersFrom N 27 τ (τ 12 i)) (fun r2 τ3 => if r2 = nI (mxv v R) - 1 then some (nI i, τ3) else f_Sp_firstWith_L2 N 27 11 n τ3 (nI (mxv v R) - 1) (nI (i + 1))) := by
      show f_Sp_firstWith_L2b N 27 11 _ τ _ _ = _
      unfold f_Sp_firstWith_L2b
      rw [if_neg (show ¬ (8 : Int32) ≤ nI i from nI_ge (b := 8) hi (by omega)), ogd_t _ (inb_n hi (by omega)), nI_clamp (by omega), ogd_t _ (inb_n hi (by omega)), ilet_s, nI_1]
      rfl
    rw [e]
    rcases hb i hi with q | ⟨b, hb2, q⟩
    · have hne : i ≠ h0 := fun e => by
        rw [← e] at h1; unfold Vh at h1; rw [if_pos q] at h1; omega
      rw [if_pos q]
      exact Or.inr ⟨nI (i + 1), rfl, by omega, rfl⟩
    · have eV : Vh (τ 12) v i = v b := by unfold Vh; rw [q, if_neg (nm1_ne (by omega)), nI_clamp (by omega)]
      rw [q, if_neg (nm1_ne (by omega)), (hv b hb2).2, obd_s]
      by_cases q2 : i = h0
      · refine Or.inl ?_
        rw [if_pos ((heq _ (hv b hb2).1 _ hM9).mpr (by rw [← eV, q2]; exact h1)), q2]
      · have := h2 i (by omega)
        rw [if_neg (fun e => by have := (heq _ (hv b hb2).1 _ hM9).mp e; omega)]
        exact Or.inr ⟨nI (i + 1), rfl, by omega, rfl⟩
theorem c28_M {τ τ' : Hp} (h : Sx (fun k j => k == 42 && j == 28) τ τ') : Sx cM τ τ' := h.mono (fun k j q => by
  unfold cM at q
  simp only [Bool.or_eq_false_iff, Bool.and_eq_false_iff, beq_eq_false_iff_ne] at q ⊢
  omega)
theorem spread_M {N n mk R : Nat} {τ τ1 : Hp} {m : Nat → Nat} (hN : 1000 ≤ N) (hn : n ≤ 8) (h2 : τ 42 1 = nI n) (hP : IvP τ n mk R) (f6 : ∀ x y, x < R → ((m x).testBit y = true ↔ Rch (fun r => τ 57 r = 1) x y)) : ∀ υ : Hp, Sx cC τ υ → ∃ υ' υ'', f_Mo_opens N 42 (upR υ 42 (upd (υ 42) 0 0)) = some (0, υ') ∧ f_Mo_spreads N 42 υ' = some (nI (mxv (fun x => hcm (τ 12) (m x) 8) R) - 1, υ'') ∧ Sx cM υ υ'' ∧ υ'' 42 28 = At (Vh (τ 12) (fun x => hcm (τ 12) (m x) 8)) n := by
  have hIR := hP.2.2.2.2.2.1
  have hR := hIR.1
  have hv1 : ∀ x, x < R → hcm (τ 12) (m x) 8 < 9 := fun x _ => by have := hcm_le (τ 12) (m x) 8; omega
  intro υ hs
  have hu := (cA_C hs).tr (cA_M (sxT υ))
  obtain ⟨υ2, o1, o2, o3⟩ := opens_y (N := N) (τ := upR υ 42 (upd (υ 42) 0 0)) hN
  have hu2 := hu.tr (cA_M (c58_M o2))
  have w57 : υ2 57 = τ 57 := hu2.row 57 (fun _ => rfl)
  have w44 : υ2 44 = τ 44 := hu2.row 44 (fun _ => rfl)
  have w12 : υ2 12 = τ 12 := hu2.row 12 (fun _ => rfl)
  obtain ⟨υ3, s1, s2, s3⟩ := spreads_y (N := N) (τ := υ2) (n := n) (R := R) (v := fun x => hcm (τ 12) (m x) 8) hN hn ((hu2 42 1 rfl).trans h2) (by rw [w12, w44]; exact hIR) (fun h x hh hx e ω hω => by
    have x57 : ω 57 = τ 57 := (hω.row 57 (fun _ => rfl)).trans w57
    have x44 : ω 44 = τ 44 := (hω.row 44 (fun _ => rfl)).trans w44
    have x12 : ω 12 = τ 12 := (hω.row 12 (fun _ => rfl)).trans w12
    have x58 : ω 58 = υ2 58 := hω.row 58 (fun _ => rfl)
    rw [w44] at e
    obtain ⟨m2, a1, a2, a3⟩ := reachOf_y (N := N) (τ := ω) hN hn ((hω 42 1 rfl).trans ((hu2 42 1 rfl).trans h2)) (by rw [x12, x44]; exact hIR) (by rw [x57]; exact hP.2.2.2.2.2.2.1.1) (fun r hr => Or.inl (by rw [x58]; exact o3 r hr)) hh (by rw [x44]; exact e) (show x < 8 by omega)
    have em : m2 = m x := mask_eq (P := fun r => τ 57 r = 1) (x := x) (fun y => (a2 y).trans (Rch.cg (fun r hr => by
      unfold Pw; rw [x57, x58, o3 r hr]; exact ⟨fun q => q.1, fun q => ⟨q, rfl⟩⟩))) (fun y => f6 x y hx)
    refine ⟨hcm_pos (show h < 8 by omega) (show x < 8 by omega) ((hIR.2.1 h (by omega)).1.symm.trans e) ((f6 x x hx).mpr (Rch.rf x)), hv1 x hx, ?_⟩
    rw [a3, em, x44, hcm_cg 8 (fun j hj => (hIR.2.1 j hj).1)])
  refine ⟨υ2, υ3, o1, s1, ((sxT υ).tr (c58_M o2)).tr (c28_M s2), ?_⟩
  rw [s3, w44]
  exact At_cg n (fun j hj => by unfold Vh; rw [(hIR.2.1 j (by omega)).1])
theorem ok_spread (N : Nat) (hN : 1000 ≤ N) : op_spread N Inv := by
  intro v1
  refine ok_read (fun τ hI => ?_)
  obtain ⟨n, t, wi, le, rp, sp, mk, R, hH, hT, hB, hL, hP, hS, hO⟩ := id hI
  obtain ⟨hn, h1, h2, h3⟩ := hH
  have hIR := hP.2.2.2.2.2.1
  have hR := hIR.1
  obtain ⟨τ1, f1, f2, f3, f4, m, f5, f6⟩ := follow_y (N := N) hN hn hP
  have hv1 : ∀ x, x < R → hcm (τ 12) (m x) 8 < 9 := fun x _ => by have := hcm_le (τ 12) (m x) 8; omega
  have hoth : ∀ x, x < R → hcm (τ 12) (m x) 8 < 9 ∧ f_Sp_othersFrom N 27 τ1 (nI x) = some (nI (hcm (τ 12) (m x) 8) - 1, τ1) := fun x hx => ⟨hv1 x hx, by rw [others_27 hN hR (by omega) f3 (f5 x (by omega)).2 (f5 x (by omega)).1 f4, ss_hc hR 8 hIR.b]⟩
  have hM := spread_M (N := N) (τ1 := τ1) (m := m) hN hn h2 hP f6
  rcases hP.1 with hmk | hmk
  · subst hmk
    have hR0 := hP.2.1 rfl
    subst hR0
    refine ⟨(-1), τ, ?_, Sx.rf, fun υ _ hs => ?_⟩
    · unfold f_WP_spread
      show (if τ 10 5 = 0 then _ else _) = _
      rw [hP.2.2.2.1, if_pos (show nI 0 = 0 from rfl)]
    · obtain ⟨υ2, υ3, o1, o2, o3, o4⟩ := hM υ hs
      refine ⟨υ3, ?_, o3⟩
      unfold f_Mo_spread
      rw [mth, o1, obd_s, o2, obd_s]
      have e28 : υ3 42 28 = (-1) := by
        rw [o4]; exact At_0 n (Vh_mx hn hIR)
      show (if v1 = 0 then some (nI 0 - 1, _) else if v1 = 1 then some (υ3 42 28, _) else _) = _
      rw [e28]
      by_cases q0 : v1 = 0
      · rw [if_pos q0]; rfl
      · rw [if_neg q0]
        by_cases q1 : v1 = 1
        · rw [if_pos q1]
        · rw [if_neg q1]
  · subst hmk
    have hR1 := hP.2.2.1 rfl
    have hpos : 0 < mxv (fun x => hcm (τ 12) (m x) 8) R := by
      obtain ⟨j, hj, e⟩ := hIR.2.2 0 (by omega)
      have h5 := hcm_pos (m := m 0) (show j < 8 by omega) (show 0 < 8 by omega) e ((f6 0 0 (by omega)).mpr (Rch.rf 0))
      have h6 := mxv_ge (v := fun x => hcm (τ 12) (m x) 8) R 0 (by omega)
      have h6 : hcm (τ 12) (m 0) 8 ≤ mxv (fun x => hcm (τ 12) (m x) 8) R := h6
      omega
    have eVm := Vh_mx (v := fun x => hcm (τ 12) (m x) 8) hn hIR
    obtain ⟨h0, a1, a2, a3⟩ := mxv_at (v := Vh (τ 12) (fun x => hcm (τ 12) (m x) 8)) n (by rw [eVm]; exact hpos)
    have eAt := At_at (V := Vh (τ 12) (fun x => hcm (τ 12) (m x) 8)) n h0 a1 a2 a3 (by rw [eVm]; exact hpos)
    have hw := widest_27 (N := N) (τ := τ1) (v := fun x => hcm (τ 12) (m x) 8) hN hR f3 hoth
    have w12 : τ1 12 = τ 12 := f2.row 12 (fun _ => rfl)
    have hfw := firstWith_y (N := N) (R := R) (h0 := h0) (τ := τ1) (v := fun x => hcm (τ 12) (m x) 8) hN hR (by rw [w12]; exact hIR.b) hoth (by omega) (by rw [w12, a2, eVm]) (by rw [w12]; exact fun i hi => by have := a3 i hi; rw [eVm] at this; exact this) hpos
    rcases btw_i N τ v1 0 1 (by omega) (by omega) with ⟨k, -, hk, rfl, hb⟩ | ⟨hno, hb⟩
    · have hb : f_WP_isBetween N τ (nI k) 0 1 = some (1, τ) := hb
      refine ⟨if k = 0 then nI (mxv (fun x => hcm (τ 12) (m x) 8) R) - 1 else nI h0, τ1, ?_, cs27_C f2, fun υ _ hs => ?_⟩
      · unfold f_WP_spread
        show (if τ 10 5 = 0 then _ else _) = _
        rw [hP.2.2.2.1, if_neg (show ¬ nI 1 = 0 by decide), hb, obd_s, if_neg (by decide)]
        show obd (f_Sp_follow N 27 10 τ) _ = _
        rw [f1, obd_s]
        show obd (f_Sp_widest N 27 τ1) _ = _
        rw [hw, obd_s]
        by_cases q : k = 0
        · subst q; rw [if_pos (show nI 0 = 0 from rfl), if_pos rfl]
        · rw [if_neg (nI_ne0 (by omega) (by omega)), if_neg q]
          show obd (f_Sp_firstWith N 27 11 τ1 _) _ = _
          rw [hfw, obd_s]
      · obtain ⟨υ2, υ3, o1, o2, o3, o4⟩ := hM υ hs
        refine ⟨υ3, ?_, o3⟩
        unfold f_Mo_spread
        rw [mth, o1, obd_s, o2, obd_s]
        by_cases q : k = 0
        · subst q; rw [if_pos (show nI 0 = 0 from rfl), if_pos rfl]
        · have : k = 1 := by omega
          subst this
          rw [if_neg (show ¬ nI 1 = 0 by decide), if_pos (show nI 1 = 1 from rfl), if_neg q, o4, eAt]
    · have hb : f_WP_isBetween N τ v1 0 1 = some (0, τ) := hb
      refine ⟨(-1), τ, ?_, Sx.rf, fun υ _ hs => ?_⟩
      · unfold f_WP_spread
        show (if τ 10 5 = 0 then _ else _) = _
        rw [hP.2.2.2.1, if_neg (show ¬ nI 1 = 0 by decide), hb, obd_s, if_pos rfl]
      · obtain ⟨υ2, υ3, o1, o2, o3, o4⟩ := hM υ hs
        refine ⟨υ3, ?_, o3⟩
        unfold f_Mo_spread
        rw [mth, o1, obd_s, o2, obd_s, if_neg (fun e : v1 = 0 => hno ⟨0, by omega, by omega, e⟩), if_neg (fun e : v1 = 1 => hno ⟨1, by omega, by omega, e⟩)]
