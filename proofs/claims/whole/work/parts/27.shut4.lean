theorem upd_2 (f : Nat → Int32) (k : Nat) (x y : Int32) : upd (upd f k x) k y = upd f k y := by
  funext j
  rw [upd_at, upd_at, upd_at]
  by_cases h : j = k
  · rw [if_pos h, if_pos h]
  · rw [if_neg h, if_neg h, if_neg h]
theorem l95_y {N r c : Nat} {υ : Hp} {K : Hp → Int32 → Int32 → Int32 → Int32 → OR} {v1 v3 : Int32} (hN : 1000 ≤ N) (hr : r < 256) (hc : c < 12) (hne : r / 32 ≠ r / 4 % 8) (hv : RV (υ 44)) (h01 : ∀ w, w < 256 → υ 52 w = 0 ∨ υ 52 w = 1) : f_Mo_shut_L95 N 42 K N (upR υ 60 (upd (υ 60) c 0)) v1 (nI c) v3 (nI r) 0 = K (upR υ 60 (upd (υ 60) c (sI (gM υ r (fun w => imax 1 (υ 53 w))) 256))) v1 (nI (c + 1)) (v3 + 1) (nI (r + 1)) := by
  refine lup (fun n' (s : Int32 × Int32) => f_Mo_shut_L95 N 42 K n' (upR υ 60 (upd (υ 60) c s.1)) v1 (nI c) v3 (nI r) s.2) (fun i s => s.1 = sI (gM υ r (fun w => imax 1 (υ 53 w))) i ∧ s.2 = nI i) (fun z => z = K (upR υ 60 (upd (υ 60) c (sI (gM υ r (fun w => imax 1 (υ 53 w))) 256))) v1 (nI (c + 1)) (v3 + 1) (nI (r + 1))) 256 ?_ ?_ N 0 (0, 0) (Nat.zero_le _) (by omega) ⟨rfl, rfl⟩
  · rintro n' ⟨s1, s2⟩ ⟨g1, g2⟩
    dsimp only at g1 g2 ⊢
    subst g1; subst g2
    show f_Mo_shut_L95b N 42 K _ _ _ _ _ _ _ = _
    unfold f_Mo_shut_L95b
    rw [if_pos (show (256 : Int32) ≤ nI 256 by decide), ilet_s, ilet_s, ilet_s, nI_1, nI_1]
  · rintro n' i ⟨s1, s2⟩ hi ⟨g1, g2⟩
    dsimp only at g1 g2 ⊢
    subst g1; subst g2
    refine Or.inr ?_
    show ∃ s' : Int32 × Int32, f_Mo_shut_L95b N 42 K _ _ _ _ _ _ _ = _ ∧ _
    unfold f_Mo_shut_L95b
    rw [if_neg (show ¬ (256 : Int32) ≤ nI i from nI_ge (b := 256) hi (by omega)), ogd_t _ (inb_n hi (by omega)), nI_clamp (by omega)]
    show ∃ s' : Int32 × Int32, (if υ 52 i = 0 then _ else obd (f_Mo_isBy N 42 (upR υ 60 (upd (υ 60) c (sI (gM υ r (fun w => imax 1 (υ 53 w))) i))) (nI i) (nI r)) _) = _ ∧ _
    have hb := misBy_y (N := N) (τ := upR υ 60 (upd (υ 60) c (sI (gM υ r (fun w => imax 1 (υ 53 w))) i))) hr hi hne hv
    rcases h01 i hi with q | q
    · rw [if_pos q, ilet_s, nI_1]
      refine ⟨(sI (gM υ r (fun w => imax 1 (υ 53 w))) i, nI (i + 1)), rfl, ?_, rfl⟩
      show _ = sI (gM υ r (fun w => imax 1 (υ 53 w))) (i + 1)
      rw [sI]
      unfold gM
      rw [if_neg (show ¬ ((υ 44 (i / 32) = nI (r / 32) ∧ υ 44 (i / 4 % 8) = nI (r / 4 % 8) ∧ i % 4 = r % 4) ∧ υ 52 i = 1) from fun e => by rw [q] at e; exact absurd e.2 (by decide)), Int32.add_zero]
    · rw [if_neg (show ¬ υ 52 i = 0 by rw [q]; decide)]
      by_cases q2 : mBy υ r i
      · rw [hb.1 q2, obd_s, if_neg (by decide), ogd_t _ (inb_n hc (by omega)), ogd_t _ (inb_n hi (by omega)), ogd_t _ (inb_n hc (by omega)), ilet_s, ilet_s, nI_1, nI_clamp (by omega)]
        refine ⟨(sI (gM υ r (fun w => imax 1 (υ 53 w))) (i + 1), nI (i + 1)), ?_, rfl, rfl⟩
        show f_Mo_shut_L95 N 42 K n' (upR (upR υ 60 (upd (υ 60) c (sI (gM υ r (fun w => imax 1 (υ 53 w))) i))) 60 (upd (upd (υ 60) c (sI (gM υ r (fun w => imax 1 (υ 53 w))) i)) c (upd (υ 60) c (sI (gM υ r (fun w => imax 1 (υ 53 w))) i) c + imax 1 (υ 53 i)))) v1 (nI c) v3 (nI r) (nI (i + 1)) = f_Mo_shut_L95 N 42 K n' (upR υ 60 (upd (υ 60) c (sI (gM υ r (fun w => imax 1 (υ 53 w))) (i + 1)))) v1 (nI c) v3 (nI r) (nI (i + 1))
        rw [upR_2, upd_eq, upd_2, sI, show gM υ r (fun w => imax 1 (υ 53 w)) i = imax 1 (υ 53 i) from if_pos ⟨q2, q⟩]
      · rw [hb.2 q2, obd_s, if_pos rfl, ilet_s, nI_1]
        refine ⟨(sI (gM υ r (fun w => imax 1 (υ 53 w))) i, nI (i + 1)), rfl, ?_, rfl⟩
        show _ = sI (gM υ r (fun w => imax 1 (υ 53 w))) (i + 1)
        rw [sI, show gM υ r (fun w => imax 1 (υ 53 w)) i = 0 from if_neg (fun e => q2 e.1), Int32.add_zero]
/-- what the model writes while it seeks rules to shut -/
def cSm (k j : Nat) : Bool := k == 58 || k == 59 || k == 60 || k == 61 || (k == 42 && (j == 0 || j == 28 || j == 32))
theorem cSm_M {τ τ' : Hp} (h : Sx cSm τ τ') : Sx cM τ τ' := h.mono (fun k j q => by
  unfold cM at q
  unfold cSm
  simp only [Bool.or_eq_false_iff, Bool.and_eq_false_iff, beq_eq_false_iff_ne] at q ⊢
  omega)
def Fre (τ υ : Hp) (m : Nat) : Prop := ∀ r, r < m → Cn τ r → υ 59 (cnt (ob (Cn τ)) r) = nI r ∧ υ 61 (cnt (ob (Cn τ)) r) = nI (cq (τ 57) r) ∧ υ 60 (cnt (ob (Cn τ)) r) = tl τ r
theorem free_y {N n R v : Nat} {τ υ0 : Hp} (hN : 1000 ≤ N) (hn : n ≤ 8) (hB : RB (τ 3) (τ 48)) (hP : IvP τ n 1 R) (hs : Sx cSm τ υ0) : ∃ υ, Sx cSm τ υ ∧ ((12 < cnt (ob (Cn τ)) 256 ∧ f_Mo_shut_L31 N 42 N υ0 (nI v) 0 0 0 = some ((-2), υ)) ∨ (cnt (ob (Cn τ)) 256 ≤ 12 ∧ Fre τ υ 256 ∧ f_Mo_shut_L31 N 42 N υ0 (nI v) 0 0 0 = f_Mo_shut_L168 N 42 N υ (nI v) (nI (cnt (ob (Cn τ)) 256)) (-1) 0)) := by
  obtain ⟨p1, p2, p3, p4, p5, p6, ⟨u1, u2, u3, u4, u5, u6⟩, p8, p9, p10⟩ := id hP
  refine lup (fun n' (s : Hp × Int32 × Int32 × Int32) => f_Mo_shut_L31 N 42 n' s.1 (nI v) s.2.1 s.2.2.1 s.2.2.2) (fun i s => (Sx cSm τ s.1 ∧ Fre τ s.1 i ∧ cnt (ob (Cn τ)) i ≤ 12) ∧ s.2.1 = nI (cnt (ob (Cn τ)) i) ∧ s.2.2.1 = nI (cq (τ 57) i) ∧ s.2.2.2 = nI i) (fun z => ∃ υ, Sx cSm τ υ ∧ ((12 < cnt (ob (Cn τ)) 256 ∧ z = some ((-2), υ)) ∨ (cnt (ob (Cn τ)) 256 ≤ 12 ∧ Fre τ υ 256 ∧ z = f_Mo_shut_L168 N 42 N υ (nI v) (nI (cnt (ob (Cn τ)) 256)) (-1) 0))) 256 ?_ ?_ N 0 (υ0, 0, 0, 0) (Nat.zero_le _) (by omega) ⟨⟨hs, fun r hr => absurd hr (Nat.not_lt_zero r), Nat.zero_le _⟩, rfl, rfl, rfl⟩
  · rintro n' ⟨υ, s1, s2, s3⟩ ⟨⟨g1, g2, g3⟩, g4, g5, g6⟩
    dsimp only at g1 g2 g4 g5 g6 ⊢
    subst g4; subst g5; subst g6
    refine ⟨υ, g1, Or.inr ⟨g3, g2, ?_⟩⟩
    show f_Mo_shut_L31b N 42 _ _ _ _ _ _ = _
    unfold f_Mo_shut_L31b
    rw [if_pos (show (256 : Int32) ≤ nI 256 by decide)]
  · rintro n' i ⟨υ, s1, s2, s3⟩ hi ⟨⟨g1, g2, g3⟩, g4, g5, g6⟩
    dsimp only at g1 g2 g4 g5 g6 ⊢
    subst g4; subst g5; subst g6
    have w44 : υ 44 = τ 44 := g1.row 44 (fun _ => rfl)
    have w48 : υ 48 = τ 48 := g1.row 48 (fun _ => rfl)
    have w52 : υ 52 = τ 52 := g1.row 52 (fun _ => rfl)
    have w53 : υ 53 = τ 53 := g1.row 53 (fun _ => rfl)
    have e0 : f_Mo_shut_L31 N 42 (n' + 1) υ (nI v) (nI (cnt (ob (Cn τ)) i)) (nI (cq (τ 57) i)) (nI i) = (if τ 57 i = 0 then ilet (nI i + 1) fun x1 => f_Mo_shut_L31 N 42 n' υ (nI v) (nI (cnt (ob (Cn τ)) i)) (nI (cq (τ 57) i)) x1 else obd (f_Mo_canShut N 42 υ (nI i)) fun r2 τ3 => (if r2 = 0 then ilet (nI (cq (τ 57) i) + 1) fun x4 => ilet (nI i + 1) fun x5 => f_Mo_shut_L31 N 42 n' τ3 (nI v) (nI (cnt (ob (Cn τ)) i)) x4 x5 else (if nI (cnt (ob (Cn τ)) i) = 12 then some ((-2), τ3) else ogd (inb (nI (cnt (ob (Cn τ)) i)) 12) (ilet (upR τ3 59 (upd (τ3 59) (Int32.toNatClampNeg (nI (cnt (ob (Cn τ)) i))) (nI i))) fun τ6 => ogd (inb (nI (cnt (ob (Cn τ)) i)) 12) (ilet (upR τ6 61 (upd (τ6 61) (Int32.toNatClampNeg (nI (cnt (ob (Cn τ)) i))) (nI (cq (τ 57) i)))) fun τ7 => ogd (inb (nI (cnt (ob (Cn τ)) i)) 12) (ilet (upR τ7 60 (upd (τ7 60) (Int32.toNatClampNeg (nI (cnt (ob (Cn τ)) i))) 0)) fun τ8 => f_Mo_shut_L95 N 42 (f_Mo_shut_L31 N 42 n') N τ8 (nI v) (nI (cnt (ob (Cn τ)) i)) (nI (cq (τ 57) i)) (nI i) 0)))))) := by
      show f_Mo_shut_L31b N 42 _ _ _ _ _ _ = _
      unfold f_Mo_shut_L31b
      rw [if_neg (show ¬ (256 : Int32) ≤ nI i from nI_ge (b := 256) hi (by omega)), ogd_t _ (inb_n hi (by omega)), nI_clamp (by omega)]
      show (if υ 57 i = 0 then _ else _) = _
      rw [g1 57 i rfl]
    rw [e0]
    rcases u1 i hi with q | q
    · have hno : ¬ Cn τ i := fun e => by have := e.1; rw [q] at this; exact absurd this (by decide)
      rw [if_pos q, ilet_s, nI_1]
      refine Or.inr ⟨(υ, nI (cnt (ob (Cn τ)) i), nI (cq (τ 57) i), nI (i + 1)), rfl, ⟨g1, fun r hr hc => ?_, by rw [cn_n (P := Cn τ) hno]; exact g3⟩, by rw [cn_n (P := Cn τ) hno], by rw [cq_s, if_neg (by rw [q]; decide)]; rfl, rfl⟩
      rcases Nat.lt_or_ge r i with q2 | q2
      · exact g2 r q2 hc
      · have : r = i := by omega
        subst this; exact absurd hc hno
    · have hne := (u2 i hi q).2.2
      rw [if_neg (show ¬ τ 57 i = 0 by rw [q]; decide)]
      have hcs := canShut_y (N := N) (τ := υ) hN hi hne (by rw [w44]; exact p6.rv') (fun w hw => by rw [w48]; exact hB.d01 hw)
      have hmi : (∃ w, w < 256 ∧ mBy υ i w ∧ υ 48 w = 1) ↔ mustBy τ i := by
        rw [← mustBy_iff hi p6]
        unfold mBy
        rw [w44, w48]
      rw [hmi] at hcs
      by_cases q2 : mustBy τ i
      · have hno : ¬ Cn τ i := fun e => e.2 q2
        rw [hcs.1 q2, obd_s, if_pos rfl, ilet_s, ilet_s, nI_1, nI_1]
        refine Or.inr ⟨(υ, nI (cnt (ob (Cn τ)) i), nI (cq (τ 57) i + 1), nI (i + 1)), rfl, ⟨g1, fun r hr hc => ?_, by rw [cn_n (P := Cn τ) hno]; exact g3⟩, by rw [cn_n (P := Cn τ) hno], by rw [cq_s, if_pos q], rfl⟩
        rcases Nat.lt_or_ge r i with q3 | q3
        · exact g2 r q3 hc
        · have : r = i := by omega
          subst this; exact absurd hc hno
      · have hcn : Cn τ i := ⟨q, q2⟩
        rw [hcs.2 q2, obd_s, if_neg (by decide)]
        obtain ⟨c, ec⟩ : ∃ c, c = cnt (ob (Cn τ)) i := ⟨_, rfl⟩
        rw [← ec] at g3 ⊢
        by_cases q3 : c = 12
        · refine Or.inl ⟨υ, g1, Or.inl ⟨?_, ?_⟩⟩
          · have h1 := cn_mono (ob (Cn τ)) 256 (show i + 1 ≤ 256 from hi)
            rw [cn_y (P := Cn τ) hcn] at h1; omega
          · rw [q3, if_pos (show nI 12 = 12 from rfl)]
        · have hc12 : c < 12 := by omega
          rw [if_neg (show ¬ nI c = 12 from fun e => q3 ((nI_eq (by omega) (by omega)).mp (show nI c = nI 12 from e))), ogd_t _ (inb_n hc12 (by omega)), ilet_s, ogd_t _ (inb_n hc12 (by omega)), ilet_s, ogd_t _ (inb_n hc12 (by omega)), ilet_s, nI_clamp (by omega)]
          have h95 := fun K => l95_y (υ := upR (upR υ 59 (upd (υ 59) c (nI i))) 61 (upd (υ 61) c (nI (cq (τ 57) i)))) (K := K) (v1 := nI v) (v3 := nI (cq (τ 57) i)) hN hi hc12 hne (by show RV (υ 44); rw [w44]; exact p6.rv') (fun w hw => by show υ 52 w = 0 ∨ υ 52 w = 1; rw [w52]; exact p8.d01 hw)
          have et : sI (gM (upR (upR υ 59 (upd (υ 59) c (nI i))) 61 (upd (υ 61) c (nI (cq (τ 57) i)))) i (fun w => imax 1 (υ 53 w))) 256 = tl τ i := by
            unfold tl
            rw [← gM_gB (x := fun w => imax 1 (τ 53 w)) p6 (fun w hw => by obtain ⟨x, _, x1, x2⟩ := p9 w hw; rw [x1, x2])]
            unfold gM
            show sI (fun w => if (υ 44 (w / 32) = nI (i / 32) ∧ υ 44 (w / 4 % 8) = nI (i / 4 % 8) ∧ w % 4 = i % 4) ∧ υ 52 w = 1 then imax 1 (υ 53 w) else 0) 256 = _
            rw [w44, w52, w53]
          refine Or.inr ⟨(upR (upR (upR υ 59 (upd (υ 59) c (nI i))) 61 (upd (υ 61) c (nI (cq (τ 57) i)))) 60 (upd (υ 60) c (tl τ i)), nI (c + 1), nI (cq (τ 57) i + 1), nI (i + 1)), ?_, ⟨((g1.tr (Sx.ud rfl)).tr (Sx.ud (k := 61) rfl)).tr (Sx.ud (k := 60) rfl), fun r hr hc => ?_, ?_⟩, ?_, ?_, rfl⟩
          · refine (h95 (f_Mo_shut_L31 N 42 n')).trans ?_
            rw [nI_1, ← et]; rfl
          · show upd (υ 59) c (nI i) (cnt (ob (Cn τ)) r) = _ ∧ upd (υ 61) c (nI (cq (τ 57) i)) (cnt (ob (Cn τ)) r) = _ ∧ upd (υ 60) c (tl τ i) (cnt (ob (Cn τ)) r) = _
            rcases Nat.lt_or_ge r i with q4 | q4
            · have := cn_lt (P := Cn τ) hc q4
              rw [upd_at, upd_at, upd_at, if_neg (by omega), if_neg (by omega), if_neg (by omega)]
              exact g2 r q4 hc
            · have : r = i := by omega
              subst this
              rw [← ec, upd_eq, upd_eq, upd_eq]; exact ⟨rfl, rfl, rfl⟩
          · rw [cn_y (P := Cn τ) hcn]; omega
          · rw [cn_y (P := Cn τ) hcn, ← ec]
          · rw [cq_s, if_pos q]
