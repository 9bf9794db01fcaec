theorem cA_1 {c : Nat → Nat → Bool} {τ υ : Hp} (hc : ∀ k j, cA k j = false → c k j = false) (h : Sx c τ υ) : Sx cA τ υ := h.mono hc
theorem tk_A : ∀ k j, cA k j = false → cTk k j = false := fun k j q => by
  unfold cA cC at q
  unfold cTk
  simp only [Bool.or_eq_false_iff, Bool.and_eq_false_iff, beq_eq_false_iff_ne] at q ⊢
  omega
theorem sk_A : ∀ k j, cA k j = false → cSk k j = false := fun k j q => by
  unfold cA cC at q
  unfold cSk
  simp only [Bool.or_eq_false_iff, Bool.and_eq_false_iff, beq_eq_false_iff_ne] at q ⊢
  omega
theorem du_A : ∀ k j, cA k j = false → cDu k j = false := fun k j q => by
  unfold cA cM at q
  unfold cDu
  simp only [Bool.or_eq_false_iff, Bool.and_eq_false_iff, beq_eq_false_iff_ne] at q ⊢
  omega
theorem pl_A : ∀ k j, cA k j = false → cPl k j = false := fun k j q => by
  unfold cA cM at q
  unfold cPl
  simp only [Bool.or_eq_false_iff, Bool.and_eq_false_iff, beq_eq_false_iff_ne] at q ⊢
  omega
/-- the model's side of place, after whatever the class did -/
theorem ml_y {N n t wi le rp sp R h d : Nat} {τ τ1 : Hp} {D : Nat → Int32} (hN : 1000 ≤ N) (hH : IvH τ n) (hT : IvT τ n t) (hB : IvB τ n) (hL : IvL τ wi le rp sp) (hP : IvP τ n 1 R) (hh : h < n) (hd : d ≤ 99) (e12 : τ 12 h = (-1)) (eD : D = ND τ t (nI d)) (s1 : Sx cHc τ τ1) : ∃ υa, Sx cGm τ1 υa ∧ Sx cA τ1 υa ∧ (∀ w, w < 256 → υa 51 w = WG τ t (nI d) w) ∧ PMQ υa (PP (τ 2) (τ 5 2 = 1) D (τ 49) (τ 12) h) (kk rp sp D (τ 12) h) D (τ 12) h (min (R + 1) 8) (f_Mo_place N 42 τ1 (nI h) (nI d)) := by
  have hn := hH.1
  have hIR := hP.2.2.2.2.2.1
  obtain ⟨l1, l2, l3, l4, hrp, hsp, l5, l6, l7, l8, l9, l10, l11, l12, l13, l14⟩ := id hL
  have hD01 : ∀ w, D w = 0 ∨ D w = 1 := fun w => by rw [eD]; exact ND_01 τ t (nI d) w
  obtain ⟨υ0, e0⟩ : ∃ x : Hp, x = upR τ1 42 (upd (τ1 42) 0 0) := ⟨_, rfl⟩
  have s0 : Sx (fun k j => k == 42 && j == 0) τ1 υ0 := by rw [e0]; exact Sx.ud rfl
  obtain ⟨υa, d1, d2, d3⟩ := dues_y (N := N) (d := d) (τ := τ) (υ0 := υ0) (by omega) hn hH.2.2.1 hT hB hL (fun j hj => by
    rcases hj with rfl | rfl | rfl | rfl
    · rw [s0 42 1 rfl, s1 42 1 rfl]
    · rw [s0 42 4 rfl, s1 42 4 rfl]
    · rw [s0 42 10 rfl, s1 42 10 rfl]
    · rw [s0 42 11 rfl, s1 42 11 rfl]) (fun k hk => by
    rcases hk with rfl | rfl | rfl | rfl | rfl | rfl | rfl
    · rw [s0.row 3 (fun _ => rfl), s1.row 3 (fun _ => rfl)]
    · rw [s0.row 4 (fun _ => rfl), s1.row 4 (fun _ => rfl)]
    · rw [s0.row 48 (fun _ => rfl), s1.row 48 (fun _ => rfl)]
    · rw [s0.row 49 (fun _ => rfl), s1.row 49 (fun _ => rfl)]
    · rw [s0.row 45 (fun _ => rfl), s1.row 45 (fun _ => rfl)]
    · rw [s0.row 46 (fun _ => rfl), s1.row 46 (fun _ => rfl)]
    · rw [s0.row 47 (fun _ => rfl), s1.row 47 (fun _ => rfl)])
  rw [← eD] at d3
  have at42 : ∀ j, ¬ j = 0 → (j = 1 ∨ j = 12 ∨ j = 13 ∨ j = 14) → υa 42 j = τ 42 j := fun j h hj => by
    rw [d2 42 j rfl]
    rcases hj with rfl | rfl | rfl | rfl
    · rw [s0 42 1 rfl, s1 42 1 rfl]
    · rw [s0 42 12 rfl, s1 42 12 rfl]
    · rw [s0 42 13 rfl, s1 42 13 rfl]
    · rw [s0 42 14 rfl, s1 42 14 rfl]
  have r49 : υa 49 = τ 49 := by rw [d2.row 49 (fun _ => rfl), s0.row 49 (fun _ => rfl), s1.row 49 (fun _ => rfl)]
  have r43 : υa 43 = τ 43 := by rw [d2.row 43 (fun _ => rfl), s0.row 43 (fun _ => rfl), s1.row 43 (fun _ => rfl)]
  have r44 : υa 44 = τ 44 := by rw [d2.row 44 (fun _ => rfl), s0.row 44 (fun _ => rfl), s1.row 44 (fun _ => rfl)]
  have q44 : ∀ j, j < 8 → υa 44 j = τ 12 j := fun j hj => by rw [r44]; exact (hIR.2.1 j hj).1
  refine ⟨υa, ?_, ?_, fun w hw => (d3 w hw).2, ?_⟩
  · exact (s0.mono (fun k j q => by
      unfold cGm cM at q
      simp only [Bool.or_eq_false_iff, Bool.and_eq_false_iff, beq_eq_false_iff_ne] at q ⊢
      omega)).tr (cGm_du d2)
  · exact (s0.mono (fun k j q => by
      unfold cA cM at q
      simp only [Bool.or_eq_false_iff, Bool.and_eq_false_iff, beq_eq_false_iff_ne] at q ⊢
      omega)).tr (cA_1 du_A d2)
  · have eM : f_Mo_place N 42 τ1 (nI h) (nI d) = f_Mo_place_L58 N 42 N υa (nI h) (nI R) (-1) (-1) 0 := by
      unfold f_Mo_place
      rw [mth, ← e0, mhost_y hn (by rw [s0 42 1 rfl, s1 42 1 rfl]; exact hH.2.2.1) hh, obd_s, if_neg (by decide), mday_y hd, obd_s, if_neg (by decide), ogd_t _ (inb_n (show h < 8 by omega) (by omega)), nI_clamp (n := h) (by omega)]
      show (if υ0 44 h = (-1) then _ else _) = _
      rw [s0 44 h rfl, s1 44 h rfl, (hIR.2.1 h (by omega)).1, if_pos e12, s0 42 19 rfl, s1 42 19 rfl, hP.2.2.2.2.1, if_neg (show ¬ nI 1 = 0 by decide), d1, obd_s, roomMany_y (by omega) (fun j hj => by rw [q44 j hj]; exact hIR.rv j hj), obd_s, rmx_cg 8 q44, hIR.rmx hn]
    rw [eM]
    refine placeM_y hN hn hh (by rw [at42 1 (by decide) (by decide)]; exact hH.2.2.1) (by rw [at42 12 (by decide) (by decide), l10]; exact l9) (by rw [at42 12 (by decide) (by decide), l10]) (by rw [at42 13 (by decide) (by decide)]; exact l12) (by rw [at42 14 (by decide) (by decide)]; exact l14) hrp hsp (fun w hw => ⟨(d3 w hw).1, hD01 w⟩) (fun w hw => ⟨by rw [r49], hB.2.1.d01 hw⟩) q44 (fun j hj => by rw [r43]; exact (hH.2.2.2 j hj).symm) hIR.rv (fun j a b => ?_) hIR.1
    rcases (hIR.2.1 j b).2 with q | ⟨q, _⟩
    · exact q
    · omega
theorem ok_place (N : Nat) (hN : 20000000 ≤ N) : op_place N Inv := by
  intro v1 v2 τ hI
  have hI0 := hI
  obtain ⟨n, t, wi, le, rp, sp, mk, R, hH, hT, hB, hL, hP, hS, hO⟩ := hI
  have hn := hH.1
  have no : ∀ {r}, (f_WP_place N 0 τ v1 v2 = some (r, τ)) → (f_Mo_place N 42 τ v1 v2 = some (r, upR τ 42 (upd (τ 42) 0 0))) → ∃ (r : Int32) (τ1 τ2 : Hp), f_WP_place N 0 τ v1 v2 = some (r, τ1) ∧ f_Mo_place N 42 τ1 v1 v2 = some (r, τ2) ∧ Inv τ2 := fun q1 q2 => ⟨_, τ, _, q1, q2, th0 (N := N) hI0⟩
  have m1 : (upR τ 42 (upd (τ 42) 0 0)) 42 1 = nI n := hH.2.2.1
  by_cases hv1 : ∃ a, a < n ∧ v1 = nI a
  · obtain ⟨h, hh, rfl⟩ := hv1
    by_cases hv2 : ∃ d, d ≤ 99 ∧ v2 = nI d
    · obtain ⟨d, hd, rfl⟩ := hv2
      have hIR := hP.2.2.2.2.2.1
      have i8 : inb (nI h) 8 = true := inb_n (by omega) (by omega)
      have C0 : f_WP_place N 0 τ (nI h) (nI d) = (if (τ 10 5) = 0 then some ((-1), τ) else (if τ 12 h = (-1) then obd (f_Nd_take N 18 1 5 6 τ (nI d)) fun _ τ6 => obd (f_Sk_seekRoomFor N 21 10 1 5 18 τ6 (nI h)) fun r7 τ8 => (if r7 = (-1) then some (r7, τ8) else obd (f_Pl_settle N 10 26 18 1 5 τ8) fun _ τ10 => some (r7, τ10)) else some ((-1), τ))) := by
        unfold f_WP_place
        show obd (f_Nt_isHost N 1 τ (nI h)) _ = _
        rw [host_y hn hH.2.1 hh, obd_s, if_neg (by decide), day_y hd, obd_s, if_neg (by decide), ogd_t _ i8, nI_clamp (n := h) (by omega)]
      have M0 : f_Mo_place N 42 τ (nI h) (nI d) = (if τ 12 h = (-1) then (if τ 42 19 = 0 then some ((-1), upR τ 42 (upd (τ 42) 0 0)) else obd (f_Mo_dues N 42 (upR τ 42 (upd (τ 42) 0 0)) (nI d)) fun _ τ7 => obd (f_Mo_roomMany N 42 τ7) fun r8 τ9 => f_Mo_place_L58 N 42 N τ9 (nI h) r8 (-1) (-1) 0) else some ((-1), upR τ 42 (upd (τ 42) 0 0))) := by
        unfold f_Mo_place
        rw [mth, mhost_y hn m1 hh, obd_s, if_neg (by decide), mday_y hd, obd_s, if_neg (by decide), ogd_t _ i8, nI_clamp (n := h) (by omega), ← (hIR.2.1 h (by omega)).1]
        rfl
      rcases hP.1 with hmk | hmk
      · subst hmk
        refine no (r := (-1)) ?_ ?_
        · rw [C0, hP.2.2.2.1, if_pos (show nI 0 = 0 from rfl)]
        · rw [M0, hP.2.2.2.2.1, if_pos (show nI 0 = 0 from rfl)]
          by_cases q : τ 12 h = (-1)
          · rw [if_pos q]
          · rw [if_neg q]
      · subst hmk
        by_cases e12 : τ 12 h = (-1)
        · obtain ⟨l1, l2, l3, l4, hrp, hsp, l5, l6, l7, l8, l9, l10, l11, l12, l13, l14⟩ := id hL
          obtain ⟨D, eD⟩ : ∃ D, D = ND τ t (nI d) := ⟨_, rfl⟩
          obtain ⟨τa, a1, a2, a3, a4⟩ := take_y (N := N) (day := nI d) (by omega) hT hB
          rw [← eD] at a3
          have sa := cHc_tk a2
          have r12 : τa 12 = τ 12 := a2.row 12 (fun _ => rfl)
          have r2 : τa 2 = τ 2 := a2.row 2 (fun _ => rfl)
          have hz : ∀ j, n ≤ j → j < 8 → τ 12 j = (-1) := fun j a b => by
            rcases (hIR.2.1 j b).2 with q | ⟨q, _⟩
            · exact q
            · omega
          obtain ⟨τb, v, b1, b2, b3, b4⟩ := seekFor_y (N := N) (n := n) (h := h) (R := R) (rp := rp) (sp := sp) (τ := τa) (D := D) (B := τ 49) (by omega) hn hh (by rw [a2 1 3 rfl]; exact hH.2.1) (by rw [a2 5 2 rfl]; exact l9) (by rw [a2 5 3 rfl]; exact l11) (by rw [a2 5 4 rfl]; exact l13) hrp hsp a3 (by rw [a2.row 4 (fun _ => rfl)]; exact hB.2.1) (by rw [r12]; exact hIR.rv) (by rw [r12]; exact hIR.rmx hn) hIR.1 (by rw [r12]; exact hz)
          rw [r12, r2, a2 5 2 rfl] at b3
          rw [r12] at b4
          have sb : Sx cHc τ τb := sa.tr (cHc_sk b2)
          have sbA : Sx cA τ τb := (cA_1 tk_A a2).tr (cA_1 sk_A b2)
          have C1 : f_WP_place N 0 τ (nI h) (nI d) = (if v = (-1) then some (v, τb) else obd (f_Pl_settle N 10 26 18 1 5 τb) fun _ τ10 => some (v, τ10)) := by
            rw [C0, hP.2.2.2.1, if_neg (show ¬ nI 1 = 0 by decide), if_pos e12, a1, obd_s, b1, obd_s]
          rcases id b3 with ⟨v1, _⟩ | ⟨b, k1, k2, k3, _⟩
          · subst v1
            obtain ⟨υa, u1, u2, u3, v', u4, u5⟩ := ml_y (N := N) (τ := τ) (τ1 := τb) (by omega) hH hT hB hL hP hh hd e12 eD sb
            have := b3.uq u4
            subst this
            rcases u5 with ⟨_, υ, w1, w2⟩ | ⟨b, _, w1, _, w2, _⟩
            · exact ⟨-1, τb, υ, by show f_WP_place N 0 τ (nI h) (nI d) = _; rw [C1, if_pos rfl], w1, hI0.sc ((sbA.tr u2).tr (cA_1 pl_A w2))⟩
            · exact absurd w2 (nm1_ne' (by omega))
          · subst k2
            have bp := b4 b (by omega) rfl
            obtain ⟨τ1, c1, c2, c3, c4, c5, c6, c7, c8, c9, c10, m, c11, c12⟩ := settle_r (N := N) (n := n) (rp := rp) (sp := sp) (τ := τb) (D := D) (Bq := τ 49) (ρ := plR (τ 12) h b) (by omega) hn (by rw [sb 1 3 rfl]; exact hH.2.1) (by rw [sb 5 3 rfl]; exact l11) (by rw [sb 5 4 rfl]; exact l13) bp (plR_rv hIR.rv (by omega)) (plR_z hh hz) (by rw [b2.row 19 (fun _ => rfl)]; exact a3) (by rw [sb.row 4 (fun _ => rfl)]; exact hB.2.1)
            have s1 : Sx cHc τ τ1 := sb.tr (cHc_st c2)
            have eC : f_WP_place N 0 τ (nI h) (nI d) = some (nI b, τ1) := by
              rw [C1, if_neg (nm1_ne (by omega)), c1, obd_s]
            obtain ⟨υa, u1, u2, u3, v', u4, u5⟩ := ml_y (N := N) (τ := τ) (τ1 := τ1) (by omega) hH hT hB hL hP hh hd e12 eD s1
            have := b3.uq u4
            subst this
            rcases u5 with ⟨w2, _⟩ | ⟨b', ω, w0, w1, w2, w3, w4, w5, w6, w7, w8, w9, w10⟩
            · exact absurd w2 (nm1_ne (by omega))
            · have := (nI_eq (by omega) (by omega)).mp w2
              subst this
              refine ⟨nI b, τ1, ω, eC, w3, ?_⟩
              have s2 : Sx cGm τ1 ω := u1.tr (cGm_pm w4)
              have hR1 := hP.2.2.1 rfl
              have hR8 := hIR.1
              refine fin_y (R := if b < R then R else R + 1) (day := nI d) hH hT hB hL hS hO s1 s2 c3 c4 (fun w hw => ?_) c6 c7 c8 c9 c10 c11 c12 w5 w6 w7 w8 (fun w hw => ⟨(w9 w hw).1, (w9 w hw).2.trans (u3 w hw)⟩) w10 ?_ ?_ (fun j hj => ?_) (fun a ha => ?_)
              · rw [c5 w hw, b2 20 w rfl]; exact a4 w hw
              · by_cases q : b < R
                · rw [if_pos q]; exact hR1
                · rw [if_neg q]; omega
              · by_cases q : b < R
                · rw [if_pos q]; exact hR8
                · rw [if_neg q]; omega
              · have hbR : b < if b < R then R else R + 1 := by
                  by_cases q : b < R
                  · rw [if_pos q]; exact q
                  · rw [if_neg q]; omega
                have hRR : R ≤ if b < R then R else R + 1 := by
                  by_cases q : b < R
                  · rw [if_pos q]; exact Nat.le_refl _
                  · rw [if_neg q]; omega
                unfold plR
                by_cases q : j = h
                · rw [if_pos q]
                  exact Or.inr ⟨by omega, b, hbR, rfl⟩
                · rw [if_neg q]
                  rcases (hIR.2.1 j hj).2 with g | ⟨g1, a, g2, g3⟩
                  · exact Or.inl g
                  · exact Or.inr ⟨g1, a, by omega, g3⟩
              · by_cases q : a < R
                · obtain ⟨j, g1, g2⟩ := hIR.2.2 a q
                  refine ⟨j, g1, ?_⟩
                  unfold plR
                  rw [if_neg (fun e => ?_)]
                  · exact g2
                  · rw [e, e12] at g2
                    exact absurd g2 (nm1_ne' (by omega))
                · refine ⟨h, hh, ?_⟩
                  unfold plR
                  rw [if_pos rfl]
                  by_cases q2 : b < R
                  · rw [if_pos q2] at ha; omega
                  · rw [if_neg q2] at ha
                    rw [show b = a by omega]
        · refine no (r := (-1)) ?_ ?_
          · rw [C0, hP.2.2.2.1, if_neg (show ¬ nI 1 = 0 by decide), if_neg e12]
          · rw [M0, if_neg e12]
    · refine no (r := (-1)) ?_ ?_
      · unfold f_WP_place
        show obd (f_Nt_isHost N 1 τ (nI h)) _ = _
        rw [host_y hn hH.2.1 hh, obd_s, if_neg (by decide), day_n hv2, obd_s, if_pos rfl]
      · unfold f_Mo_place
        rw [mth, mhost_y hn m1 hh, obd_s, if_neg (by decide), mday_n hv2, obd_s, if_pos rfl]
  · refine no (r := (-1)) ?_ ?_
    · unfold f_WP_place
      show obd (f_Nt_isHost N 1 τ v1) _ = _
      rw [host_n hn hH.2.1 hv1, obd_s, if_pos rfl]
    · unfold f_Mo_place
      rw [mth, mhost_n hn m1 hv1, obd_s, if_pos rfl]
