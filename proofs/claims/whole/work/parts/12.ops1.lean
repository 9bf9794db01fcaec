def cH (k j : Nat) : Bool := cA k j || (k == 2 || k == 43 || (k == 1 && j == 3) || (k == 42 && j == 1))
theorem WY.up {n w : Nat} (h : WY n w) : WY (n + 1) w := ⟨h.1, by have := h.2.1; omega, by have := h.2.2.1; omega, h.2.2.2⟩
theorem wy3 {a b d : Nat} (hb : b < 8) (hd : d < 4) : (32 * a + 4 * b + d) / 32 = a ∧ (32 * a + 4 * b + d) / 4 % 8 = b ∧ (32 * a + 4 * b + d) % 4 = d := ⟨by omega, by omega, by omega⟩
theorem WY_of {n a b d : Nat} (hn : n ≤ 8) (ha : a < n) (hb : b < n) (hab : a ≠ b) (hd : d < 4) : WY n (32 * a + 4 * b + d) := by
  obtain ⟨e1, e2, -⟩ := wy3 (a := a) (b := b) (d := d) (by omega) hd
  exact ⟨by omega, by rw [e1]; exact ha, by rw [e2]; exact hb, by rw [e1, e2]; exact hab⟩
theorem ok_host (N : Nat) : op_host N Inv := by
  intro a τ hI
  have hI0 := hI
  obtain ⟨n, t, wi, le, rp, sp, mk, R, hH, hT, hB, hL, hP, hS, hO⟩ := hI
  obtain ⟨hn, h1, h2, h3⟩ := hH
  rcases btw_i N τ a 0 3 (by omega) (by omega) with ⟨k, _, hk, rfl, hb⟩ | ⟨hno, hb⟩
  · have hb : f_WP_isBetween N τ (nI k) 0 3 = some (1, τ) := hb
    by_cases h8 : n < 8
    · refine ⟨nI n, upR (upR τ 2 (upd (τ 2) n (nI k))) 1 (upd (τ 1) 3 (nI (n + 1))), ?_⟩
      refine ⟨upR (upR (upR (upR (upR τ 2 (upd (τ 2) n (nI k))) 1 (upd (τ 1) 3 (nI (n + 1)))) 42 (upd (τ 42) 0 0)) 43 (upd (τ 43) n (nI k))) 42 (upd (upd (τ 42) 0 0) 1 (nI (n + 1))), ?_, ?_, ?_⟩
      · show f_WP_host N 0 τ (nI k) = _
        unfold f_WP_host
        rw [hb, obd_s, if_neg (by decide)]
        show obd (f_Nt_addHost N 1 τ (nI k)) _ = _
        unfold f_Nt_addHost
        rw [h1, if_pos (show nI n < 8 from nI_lt (b := 8) h8 (by omega)), ogd_t _ (inb_n h8 (by omega)), ilet_s, ilet_s]
        show some ((τ 1 3 + 1) - 1, upR (upR τ 2 (upd (τ 2) (nI n).toNatClampNeg (nI k))) 1 (upd (τ 1) 3 (τ 1 3 + 1))) = _
        rw [h1, nI_clamp (by omega), nI_1, nI_pred]
      · show f_Mo_host N 42 _ (nI k) = _
        unfold f_Mo_host
        rw [ilet_s, if_neg (nI_pos (by omega)), if_neg (show ¬ (3 : Int32) < nI k from nI_nlt (a := 3) hk (by omega))]
        show (if τ 42 1 = 8 then _ else _) = _
        rw [h2, if_neg (show ¬ nI n = 8 from fun q => by have := (nI_eq (b := 8) (by omega) (by omega)).mp q; omega)]
        show ogd (inb (τ 42 1) 8) _ = _
        rw [h2, ogd_t _ (inb_n h8 (by omega)), ilet_s, ilet_s]
        show some ((τ 42 1 + 1) - 1, upR (upR (upR (upR (upR τ 2 (upd (τ 2) n (nI k))) 1 (upd (τ 1) 3 (nI (n + 1)))) 42 (upd (τ 42) 0 0)) 43 (upd (τ 43) (τ 42 1).toNatClampNeg (nI k))) 42 (upd (upd (τ 42) 0 0) 1 (τ 42 1 + 1))) = _
        rw [h2, nI_clamp (by omega), nI_1, nI_pred]
      · have hx : Sx cH τ (upR (upR (upR (upR (upR τ 2 (upd (τ 2) n (nI k))) 1 (upd (τ 1) 3 (nI (n + 1)))) 42 (upd (τ 42) 0 0)) 43 (upd (τ 43) n (nI k))) 42 (upd (upd (τ 42) 0 0) 1 (nI (n + 1)))) := by
          refine Sx.tr (Sx.tr (Sx.tr (Sx.tr (Sx.ud rfl) (Sx.ud rfl)) (Sx.ud rfl)) (Sx.ud rfl)) (Sx.u (fun j hj => ?_))
          rw [upd_at]
          by_cases q : j = 1
          · subst q; cases hj
          · rw [if_neg q]; rfl
        refine ⟨n + 1, t, wi, le, rp, sp, mk, R, ⟨by omega, rfl, rfl, fun j hj => ?_⟩, ?_, ?_, hL.cg hx ⟨rfl, rfl, rfl, rfl, rfl, rfl, rfl, rfl, rfl, rfl⟩, ?_, hS.cg hx (fun _ => ⟨rfl, rfl, rfl, rfl⟩), hO.cg hx (fun _ => ⟨rfl, rfl, rfl, rfl, rfl, rfl, rfl, rfl, rfl⟩)⟩
        · show upd (τ 2) n (nI k) j = upd (τ 43) n (nI k) j
          rw [upd_at, upd_at, h3 j hj]
        · obtain ⟨a1, a2, a3, a4⟩ := hT.cg hx (fun _ => ⟨rfl, rfl, rfl, rfl, rfl, rfl, rfl, rfl⟩)
          refine ⟨a1, a2, a3, fun j hj => ?_⟩
          obtain ⟨x, y, z, b1, b2⟩ := a4 j hj
          exact ⟨x, y, z, b1.up, b2⟩
        · obtain ⟨a1, a2, a3⟩ := hB.cg hx (fun _ => ⟨rfl, rfl, rfl, rfl⟩)
          exact ⟨a1, a2, fun w hw => ⟨fun q => ⟨((a3 w hw).1 q).1.up, ((a3 w hw).1 q).2⟩, fun q => ((a3 w hw).2 q).up⟩⟩
        · obtain ⟨a1, a2, a3, a4, a5, a6, a7⟩ := hP.cg hx (fun _ => ⟨rfl, rfl, rfl, rfl, rfl, rfl, rfl, rfl, rfl, rfl, rfl, rfl, rfl, rfl⟩)
          refine ⟨a1, a2, a3, a4, a5, ⟨a6.1, fun j hj => ⟨(a6.2.1 j hj).1, ?_⟩, fun a ha => ?_⟩, a7⟩
          · rcases (a6.2.1 j hj).2 with q | ⟨q, q2⟩
            · exact Or.inl q
            · exact Or.inr ⟨by omega, q2⟩
          · obtain ⟨j, q1, q2⟩ := a6.2.2 a ha
            exact ⟨j, by omega, q2⟩
    · have e8 : n = 8 := by omega
      refine ⟨(-1), τ, upR τ 42 (upd (τ 42) 0 0), ?_, ?_, hI0.sc (cA_M (Sx.ud rfl))⟩
      · show f_WP_host N 0 τ (nI k) = _
        unfold f_WP_host
        rw [hb, obd_s, if_neg (by decide)]
        show obd (f_Nt_addHost N 1 τ (nI k)) _ = _
        unfold f_Nt_addHost
        rw [h1, e8, if_neg (by decide), obd_s]
      · show f_Mo_host N 42 _ (nI k) = _
        unfold f_Mo_host
        rw [ilet_s, if_neg (nI_pos (by omega)), if_neg (show ¬ (3 : Int32) < nI k from nI_nlt (a := 3) hk (by omega))]
        show (if τ 42 1 = 8 then _ else _) = _
        rw [h2, e8, if_pos (show nI 8 = 8 from rfl)]
  · have hb : f_WP_isBetween N τ a 0 3 = some (0, τ) := hb
    refine ⟨(-1), τ, upR τ 42 (upd (τ 42) 0 0), ?_, ?_, hI0.sc (cA_M (Sx.ud rfl))⟩
    · show f_WP_host N 0 τ a = _
      unfold f_WP_host
      rw [hb, obd_s, if_pos rfl]
    · show f_Mo_host N 42 _ a = _
      unfold f_Mo_host
      rw [ilet_s]
      by_cases q : a < 0
      · rw [if_pos q]
      · rw [if_neg q]
        obtain ⟨d, hd, rfl⟩ := nI_of q
        rw [if_pos (show (3 : Int32) < nI d from nI_lt (a := 3) (Nat.lt_of_not_le fun q => hno ⟨d, by omega, q, rfl⟩) hd)]
def cT (k j : Nat) : Bool := cA k j || (k == 7 || k == 8 || k == 9 || k == 45 || k == 46 || k == 47 || (k == 6 && j == 3) || (k == 42 && j == 4))
theorem upd_lt {f : Nat → Int32} {t j : Nat} {x : Int32} (h : j < t) : upd f t x j = f j := by rw [upd_at, if_neg (by omega)]
theorem upd_eq (f : Nat → Int32) (t : Nat) (x : Int32) : upd f t x t = x := by rw [upd_at, if_pos rfl]
theorem write_y {N t : Nat} {τ : Hp} {x y z : Int32} (ht : t < 300) (h : τ 6 3 = nI t) : f_Di_write N 6 τ x y z = some (nI (t + 1), upR (upR (upR (upR τ 7 (upd (τ 7) t x)) 8 (upd (τ 8) t y)) 9 (upd (τ 9) t z)) 6 (upd (τ 6) 3 (nI (t + 1)))) := by
  unfold f_Di_write
  rw [h, if_pos (show nI t < 300 from nI_lt (b := 300) ht (by omega)), ogd_t _ (inb_n ht (by omega)), ilet_s]
  show ogd (inb (τ 6 3) 300) (ilet (upR (upR τ 7 (upd (τ 7) (nI t).toNatClampNeg x)) 8 (upd (τ 8) (τ 6 3).toNatClampNeg y)) _) = _
  rw [h, ogd_t _ (inb_n ht (by omega)), ilet_s]
  show ogd (inb (τ 6 3) 300) (ilet (upR (upR (upR τ 7 (upd (τ 7) (nI t).toNatClampNeg x)) 8 (upd (τ 8) (nI t).toNatClampNeg y)) 9 (upd (τ 9) (τ 6 3).toNatClampNeg z)) _) = _
  rw [h, ogd_t _ (inb_n ht (by omega)), ilet_s, ilet_s]
  show some (τ 6 3 + 1, upR (upR (upR (upR τ 7 (upd (τ 7) (nI t).toNatClampNeg x)) 8 (upd (τ 8) (nI t).toNatClampNeg y)) 9 (upd (τ 9) (nI t).toNatClampNeg z)) 6 (upd (τ 6) 3 (τ 6 3 + 1))) = _
  rw [h, nI_clamp (by omega), nI_1]
theorem th0 {N : Nat} {τ : Hp} : Inv τ → Inv (upR τ 42 (upd (τ 42) 0 0)) := fun h => h.sc (cA_M (Sx.ud rfl))
theorem ok_talk (N : Nat) : op_talk N Inv := by
  intro v1 v2 v3 v4 v5 τ hI
  have hI0 := hI
  obtain ⟨n, t, wi, le, rp, sp, mk, R, hH, hT, hB, hL, hP, hS, hO⟩ := hI
  obtain ⟨hn, h1, h2, h3⟩ := hH
  obtain ⟨ht, t1, t2, t3⟩ := hT
  have no : ∀ {r}, (f_WP_talk N 0 τ v1 v2 v3 v4 v5 = some (r, τ)) → (f_Mo_talk N 42 τ v1 v2 v3 v4 v5 = some (r, upR τ 42 (upd (τ 42) 0 0))) → ∃ (r : Int32) (τ1 τ2 : Hp), f_WP_talk N 0 τ v1 v2 v3 v4 v5 = some (r, τ1) ∧ f_Mo_talk N 42 τ1 v1 v2 v3 v4 v5 = some (r, τ2) ∧ Inv τ2 := fun q1 q2 => ⟨_, τ, _, q1, q2, th0 (N := N) hI0⟩
  by_cases hw : isWY n v1 v2 v3
  · obtain ⟨a, b, d, ha, hb, hab, hd, rfl, rfl, rfl⟩ := hw
    by_cases hdy : ∃ d, d ≤ 99 ∧ v4 = nI d
    · obtain ⟨y, hy, rfl⟩ := hdy
      by_cases hct : ∃ a, 1 ≤ a ∧ a ≤ 999 ∧ v5 = nI a
      · obtain ⟨z, hz1, hz2, rfl⟩ := hct
        by_cases h3t : t < 300
        · refine ⟨nI (t + 1), upR (upR (upR (upR τ 7 (upd (τ 7) t (nI (32 * a + 4 * b + d)))) 8 (upd (τ 8) t (nI y))) 9 (upd (τ 9) t (nI z))) 6 (upd (τ 6) 3 (nI (t + 1))), ?_⟩
          refine ⟨upR (upR (upR (upR (upR (upR (upR (upR (upR τ 7 (upd (τ 7) t (nI (32 * a + 4 * b + d)))) 8 (upd (τ 8) t (nI y))) 9 (upd (τ 9) t (nI z))) 6 (upd (τ 6) 3 (nI (t + 1)))) 42 (upd (τ 42) 0 0)) 45 (upd (τ 45) t (nI (32 * a + 4 * b + d)))) 46 (upd (τ 46) t (nI y))) 47 (upd (τ 47) t (nI z))) 42 (upd (upd (τ 42) 0 0) 4 (nI (t + 1))), ?_, ?_, ?_⟩
          · show f_WP_talk N 0 τ (nI a) (nI b) (nI d) (nI y) (nI z) = _
            unfold f_WP_talk
            show obd (f_Nt_isWay N 1 τ _ _ _) _ = _
            rw [way_y hn h1 ha hb hab hd, obd_s, if_neg (by decide), day_y hy, obd_s, if_neg (by decide), show f_WP_isBetween N τ (nI z) 1 999 = some (1, τ) from btw_y (b := 1) (c := 999) hz1 hz2 (by omega), obd_s, if_neg (by decide), wayOf_y, obd_s]
            show obd (f_Di_write N 6 τ _ _ _) _ = _
            rw [write_y h3t t1, obd_s]
          · show f_Mo_talk N 42 _ (nI a) (nI b) (nI d) (nI y) (nI z) = _
            unfold f_Mo_talk
            rw [ilet_s]
            show obd (f_Mo_way N 42 (upR (upR (upR (upR (upR τ 7 (upd (τ 7) t (nI (32 * a + 4 * b + d)))) 8 (upd (τ 8) t (nI y))) 9 (upd (τ 9) t (nI z))) 6 (upd (τ 6) 3 (nI (t + 1)))) 42 (upd (τ 42) 0 0)) (nI a) (nI b) (nI d)) _ = _
            rw [mway_y (n := n) (τ := upR (upR (upR (upR (upR τ 7 (upd (τ 7) t (nI (32 * a + 4 * b + d)))) 8 (upd (τ 8) t (nI y))) 9 (upd (τ 9) t (nI z))) 6 (upd (τ 6) 3 (nI (t + 1)))) 42 (upd (τ 42) 0 0)) hn h2 ha hb hab hd, obd_s, if_neg (nm1_ne (by omega)), mday_y hy, obd_s, if_neg (by decide), if_neg (show ¬ nI z < 1 from nI_nlt (b := 1) hz1 (by omega)), if_neg (show ¬ (999 : Int32) < nI z from nI_nlt (a := 999) hz2 (by omega))]
            show (if τ 42 4 = 300 then _ else _) = _
            rw [t2, if_neg (show ¬ nI t = 300 from fun q => by have := (nI_eq (b := 300) (by omega) (by omega)).mp q; omega)]
            show ogd (inb (τ 42 4) 300) _ = _
            rw [t2, ogd_t _ (inb_n h3t (by omega)), ilet_s]
            show ogd (inb (τ 42 4) 300) _ = _
            rw [t2, ogd_t _ (inb_n h3t (by omega)), ilet_s]
            show ogd (inb (τ 42 4) 300) _ = _
            rw [t2, ogd_t _ (inb_n h3t (by omega)), ilet_s, ilet_s]
            show some (τ 42 4 + 1, upR (upR (upR (upR (upR (upR (upR (upR (upR τ 7 (upd (τ 7) t (nI (32 * a + 4 * b + d)))) 8 (upd (τ 8) t (nI y))) 9 (upd (τ 9) t (nI z))) 6 (upd (τ 6) 3 (nI (t + 1)))) 42 (upd (τ 42) 0 0)) 45 (upd (τ 45) (τ 42 4).toNatClampNeg (nI (32 * a + 4 * b + d)))) 46 (upd (τ 46) (τ 42 4).toNatClampNeg (nI y))) 47 (upd (τ 47) (τ 42 4).toNatClampNeg (nI z))) 42 (upd (upd (τ 42) 0 0) 4 (τ 42 4 + 1))) = _
            rw [t2, nI_clamp (by omega), nI_1]
          · have hx : Sx cT τ (upR (upR (upR (upR (upR (upR (upR (upR (upR τ 7 (upd (τ 7) t (nI (32 * a + 4 * b + d)))) 8 (upd (τ 8) t (nI y))) 9 (upd (τ 9) t (nI z))) 6 (upd (τ 6) 3 (nI (t + 1)))) 42 (upd (τ 42) 0 0)) 45 (upd (τ 45) t (nI (32 * a + 4 * b + d)))) 46 (upd (τ 46) t (nI y))) 47 (upd (τ 47) t (nI z))) 42 (upd (upd (τ 42) 0 0) 4 (nI (t + 1)))) := by
              refine Sx.tr (Sx.tr (Sx.tr (Sx.tr (Sx.tr (Sx.tr (Sx.tr (Sx.tr (Sx.ud rfl) (Sx.ud rfl)) (Sx.ud rfl)) (Sx.ud rfl)) (Sx.ud rfl)) (Sx.ud rfl)) (Sx.ud rfl)) (Sx.ud rfl)) (Sx.u (fun j hj => ?_))
              rw [upd_at]
              by_cases q : j = 4
              · subst q; cases hj
              · rw [if_neg q]; rfl
            refine ⟨n, t + 1, wi, le, rp, sp, mk, R, IvH.cg hx (fun _ => ⟨rfl, rfl, rfl, rfl⟩) ⟨hn, h1, h2, h3⟩, ⟨by omega, rfl, rfl, fun j hj => ?_⟩, hB.cg hx (fun _ => ⟨rfl, rfl, rfl, rfl⟩), hL.cg hx ⟨rfl, rfl, rfl, rfl, rfl, rfl, rfl, rfl, rfl, rfl⟩, hP.cg hx (fun _ => ⟨rfl, rfl, rfl, rfl, rfl, rfl, rfl, rfl, rfl, rfl, rfl, rfl, rfl, rfl⟩), hS.cg hx (fun _ => ⟨rfl, rfl, rfl, rfl⟩), ?_⟩
            · show ∃ x y_1 z_1, WY n x ∧ y_1 ≤ 99 ∧ 1 ≤ z_1 ∧ z_1 ≤ 999 ∧ upd (τ 7) t (nI (32 * a + 4 * b + d)) j = nI x ∧ upd (τ 45) t (nI (32 * a + 4 * b + d)) j = nI x ∧ upd (τ 8) t (nI y) j = nI y_1 ∧ upd (τ 46) t (nI y) j = nI y_1 ∧ upd (τ 9) t (nI z) j = nI z_1 ∧ upd (τ 47) t (nI z) j = nI z_1
              rcases Nat.lt_or_ge j t with q | q
              · rw [upd_lt q, upd_lt q, upd_lt q, upd_lt q, upd_lt q, upd_lt q]; exact t3 j q
              · have : j = t := by omega
                subst this
                rw [upd_eq, upd_eq, upd_eq, upd_eq, upd_eq, upd_eq]
                exact ⟨_, y, z, WY_of hn ha hb hab hd, hy, hz1, hz2, rfl, rfl, rfl, rfl, rfl, rfl⟩
            · obtain ⟨o, o1, o2, o3, o4⟩ := hO
              refine ⟨o, o1, o2, o3, fun j hj => ?_⟩
              obtain ⟨k, k1, k2, k3, k4, k5⟩ := o4 j hj
              refine ⟨k, by omega, k2, ?_, ?_, k5⟩
              · show τ 63 j = upd (τ 7) t _ k; rw [upd_lt k1]; exact k3
              · show τ 64 j = upd (τ 9) t _ k; rw [upd_lt k1]; exact k4
        · have e3 : t = 300 := by omega
          refine no (r := (-1)) ?_ ?_
          · unfold f_WP_talk
            show obd (f_Nt_isWay N 1 τ _ _ _) _ = _
            rw [way_y hn h1 ha hb hab hd, obd_s, if_neg (by decide), day_y hy, obd_s, if_neg (by decide), show f_WP_isBetween N τ (nI z) 1 999 = some (1, τ) from btw_y (b := 1) (c := 999) hz1 hz2 (by omega), obd_s, if_neg (by decide), wayOf_y, obd_s]
            show obd (f_Di_write N 6 τ _ _ _) _ = _
            unfold f_Di_write
            rw [t1, e3, if_neg (by decide), obd_s]
          · unfold f_Mo_talk
            rw [ilet_s, mway_y (n := n) (τ := upR τ 42 (upd (τ 42) 0 0)) hn h2 ha hb hab hd, obd_s, if_neg (nm1_ne (by omega)), mday_y hy, obd_s, if_neg (by decide), if_neg (show ¬ nI z < 1 from nI_nlt (b := 1) hz1 (by omega)), if_neg (show ¬ (999 : Int32) < nI z from nI_nlt (a := 999) hz2 (by omega))]
            show (if τ 42 4 = 300 then _ else _) = _
            rw [t2, e3, if_pos (show nI 300 = 300 from rfl)]
      · refine no (r := (-1)) ?_ ?_
        · unfold f_WP_talk
          show obd (f_Nt_isWay N 1 τ _ _ _) _ = _
          rw [way_y hn h1 ha hb hab hd, obd_s, if_neg (by decide), day_y hy, obd_s, if_neg (by decide), show f_WP_isBetween N τ v5 1 999 = some (0, τ) from btw_n (b := 1) (c := 999) (by omega) (by omega) hct, obd_s, if_pos rfl]
        · unfold f_Mo_talk
          rw [ilet_s, mway_y (n := n) (τ := upR τ 42 (upd (τ 42) 0 0)) hn h2 ha hb hab hd, obd_s, if_neg (nm1_ne (by omega)), mday_y hy, obd_s, if_neg (by decide)]
          by_cases q : v5 < 1
          · rw [if_pos q]
          · rw [if_neg q, if_pos]
            rw [fa_ltI] at q ⊢
            rw [show (1 : Int32).toInt = 1 from rfl] at q
            rw [show (999 : Int32).toInt = 999 from rfl]
            exact Int.lt_of_not_ge (fun q2 => hct ⟨v5.toInt.toNat, by omega, by omega, by rw [fa_eqI, nI_toInt (by omega)]; omega⟩)
    · refine no (r := (-1)) ?_ ?_
      · unfold f_WP_talk
        show obd (f_Nt_isWay N 1 τ _ _ _) _ = _
        rw [way_y hn h1 ha hb hab hd, obd_s, if_neg (by decide), day_n hdy, obd_s, if_pos rfl]
      · unfold f_Mo_talk
        rw [ilet_s, mway_y (n := n) (τ := upR τ 42 (upd (τ 42) 0 0)) hn h2 ha hb hab hd, obd_s, if_neg (nm1_ne (by omega)), mday_n hdy, obd_s, if_pos rfl]
  · refine no (r := (-1)) ?_ ?_
    · unfold f_WP_talk
      show obd (f_Nt_isWay N 1 τ _ _ _) _ = _
      rw [way_n hn h1 hw, obd_s, if_pos rfl]
    · unfold f_Mo_talk
      rw [ilet_s, mway_n (n := n) (τ := upR τ 42 (upd (τ 42) 0 0)) hn h2 hw, obd_s, if_pos rfl]
