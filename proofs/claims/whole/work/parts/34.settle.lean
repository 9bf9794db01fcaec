theorem RUL_cnt (ρ D : Nat → Int32) : nRU ρ D ≤ 224 := by
  have h : nRU ρ D ≤ cnt (fun r => !(r / 32 == r / 4 % 8)) 256 := cnt_le_of 256 (fun r _ q => by
    have := (ob_p q).1
    show (!(r / 32 == r / 4 % 8)) = true
    rw [beq_eq_false_iff_ne.mpr this]; rfl)
  have h2 : cnt (fun r => !(r / 32 == r / 4 % 8)) 256 = 224 := by decide +kernel
  omega
def cSt (k j : Nat) : Bool := k == 12 || k == 13 || k == 15 || k == 16 || k == 17 || (k == 10 && (j == 3 || j == 4 || j == 5)) || (k == 11 && (j == 2 || j == 3 || j == 4))
theorem list_y {N : Nat} {τ : Hp} {ρ D : Nat → Int32} {m : Nat → Nat} (hN : 1000 ≤ N) (hm : DO ρ D 64 m) (h13 : ∀ p, p < 64 → τ 13 p = nI (m p)) : ∃ υ, f_Pl_listRules N 10 τ = some (0, υ) ∧ Sx (fun k j => k == 17 || (k == 10 && j == 3)) τ υ ∧ υ 10 3 = nI (nRU ρ D) ∧ ∀ r, r < 256 → RUL ρ D r → υ 17 (cnt (ob (RUL ρ D)) r) = nI r := by
  unfold f_Pl_listRules
  rw [ilet_s]
  refine lup (fun n' (s : Hp × Int32) => f_Pl_listRules_L7 N 10 n' s.1 s.2) (fun i s => (Sx (fun k j => k == 17 || (k == 10 && j == 3)) τ s.1 ∧ s.1 10 3 = nI (cnt (ob (RUL ρ D)) i) ∧ ∀ r, r < i → RUL ρ D r → s.1 17 (cnt (ob (RUL ρ D)) r) = nI r) ∧ s.2 = nI i) (fun z => ∃ υ, z = some (0, υ) ∧ Sx (fun k j => k == 17 || (k == 10 && j == 3)) τ υ ∧ υ 10 3 = nI (nRU ρ D) ∧ ∀ r, r < 256 → RUL ρ D r → υ 17 (cnt (ob (RUL ρ D)) r) = nI r) 256 ?_ ?_ N 0 (upR τ 10 (upd (τ 10) 3 0), 0) (Nat.zero_le _) (by omega) ⟨⟨Sx.ud rfl, rfl, fun r hr => absurd hr (Nat.not_lt_zero r)⟩, rfl⟩
  · rintro n' ⟨υ, s2⟩ ⟨⟨g1, g2, g3⟩, g4⟩
    dsimp only at g1 g2 g3 g4 ⊢
    subst g4
    refine ⟨υ, ?_, g1, g2, g3⟩
    show f_Pl_listRules_L7b N 10 _ υ _ = _
    unfold f_Pl_listRules_L7b
    rw [if_pos (show (256 : Int32) ≤ nI 256 by decide)]
  · rintro n' i ⟨υ, s2⟩ hi ⟨⟨g1, g2, g3⟩, g4⟩
    dsimp only at g1 g2 g3 g4 ⊢
    subst g4
    have hrul := hm.rul hi
    have hd9 := dg (i / 4) (by omega)
    have skip : ¬ RUL ρ D i → ∃ s' : Hp × Int32, f_Pl_listRules_L7 N 10 n' υ (nI (i + 1)) = f_Pl_listRules_L7 N 10 n' s'.1 s'.2 ∧ (Sx (fun k j => k == 17 || (k == 10 && j == 3)) τ s'.1 ∧ s'.1 10 3 = nI (cnt (ob (RUL ρ D)) (i + 1)) ∧ ∀ r, r < i + 1 → RUL ρ D r → s'.1 17 (cnt (ob (RUL ρ D)) r) = nI r) ∧ s'.2 = nI (i + 1) := fun hno => ⟨(υ, nI (i + 1)), rfl, ⟨g1, by rw [cn_n (P := RUL ρ D) hno]; exact g2, fun r hr hru => by
      rcases Nat.lt_or_ge r i with q | q
      · exact g3 r q hru
      · have : r = i := by omega
        subst this; exact absurd hru hno⟩, rfl⟩
    refine Or.inr ?_
    show ∃ s' : Hp × Int32, f_Pl_listRules_L7b N 10 _ υ _ = _ ∧ _
    unfold f_Pl_listRules_L7b
    rw [if_neg (show ¬ (256 : Int32) ≤ nI i from nI_ge (b := 256) hi (by omega)), firstOf_y hi, obd_s, secondOf_y hi, obd_s]
    unfold f_Pl_listRules_J30
    by_cases q1 : i / 32 = i / 4 % 8
    · rw [if_pos (by rw [q1]), if_pos rfl, ilet_s, nI_1]
      exact skip (fun e => e.1 q1)
    · have h9 : i / 4 % 9 ≠ 0 := fun e => q1 (by have := hd9.mp e; omega)
      rw [if_neg (fun e => q1 ((nI_eq (by omega) (by omega)).mp e)), if_neg (by decide), (rule3 i hi).2.2.2.2, ogd_t _ (inb_n (i := i / 4) (by omega) (by omega)), doorOf_y hi, obd_s, nI_clamp (by omega)]
      show ∃ s' : Hp × Int32, obd (f_WP_hasDoor N υ (υ 13 (i / 4)) (nI (i % 4))) _ = _ ∧ _
      rw [g1 13 _ rfl, h13 _ (show i / 4 < 64 by omega), door_y (hm (i / 4) (by omega)).1 (by omega), obd_s]
      by_cases q2 : (m (i / 4)).testBit (i % 4) = true
      · have hru : RUL ρ D i := hrul.mpr ⟨h9, q2⟩
        have hc : cnt (ob (RUL ρ D)) i < 224 := by
          have h1 := cn_lt (P := RUL ρ D) hru hi
          have h2 : cnt (ob (RUL ρ D)) 256 ≤ 224 := RUL_cnt ρ D
          omega
        rw [if_pos q2, if_neg (by decide), g2, if_neg (show ¬ (224 : Int32) ≤ nI _ from nI_ge (b := 224) hc (by omega)), ogd_t _ (inb_n hc (by omega)), ilet_s, ilet_s, ilet_s, nI_1, nI_clamp (by omega)]
        refine ⟨(upR (upR υ 17 (upd (υ 17) (cnt (ob (RUL ρ D)) i) (nI i))) 10 (upd (υ 10) 3 (nI (cnt (ob (RUL ρ D)) i + 1))), nI (i + 1)), ?_, ⟨(g1.tr (Sx.ud rfl)).tr (Sx.ud (k := 10) (i := 3) rfl), by rw [cn_y (P := RUL ρ D) hru]; rfl, fun r hr hru' => ?_⟩, rfl⟩
        · show f_Pl_listRules_L7 N 10 n' (upR (upR υ 17 (upd (υ 17) (cnt (ob (RUL ρ D)) i) (nI i))) 10 (upd (υ 10) 3 (υ 10 3 + 1))) (nI (i + 1)) = _
          rw [g2, nI_1]
        · show upd (υ 17) (cnt (ob (RUL ρ D)) i) (nI i) (cnt (ob (RUL ρ D)) r) = nI r
          rcases Nat.lt_or_ge r i with q | q
          · have := cn_lt (P := RUL ρ D) hru' q
            rw [upd_at, if_neg (by omega)]; exact g3 r q hru'
          · have : r = i := by omega
            subst this; rw [upd_eq]
      · rw [if_neg q2, if_pos rfl, ilet_s, nI_1]
        exact skip (fun e => q2 (hrul.mp e).2)
theorem settle_y {N n rp sp : Nat} {τ : Hp} {D Bq : Nat → Int32} (hN : 1000 ≤ N) (hn : n ≤ 8) (h1 : τ 1 3 = nI n) (h3 : τ 5 3 = nI rp) (h4 : τ 5 4 = nI sp) (hv : RV (τ 26)) (hz : ∀ j, n ≤ j → j < 8 → τ 26 j = (-1)) (hQ : RB (τ 19) D) (hB : RB (τ 4) Bq) : ∃ υ, f_Pl_settle N 10 26 18 1 5 τ = some (0, υ) ∧ Sx cSt τ υ ∧ (∀ j, j < 8 → υ 12 j = τ 26 j) ∧ RB (υ 15) D ∧ (∀ w, w < 256 → υ 16 w = τ 20 w) ∧ υ 10 5 = 1 ∧ υ 10 4 = nI (csO rp sp (τ 26) D) ∧ υ 11 3 = nI (nST (τ 26) D) ∧ υ 10 3 = nI (nRU (τ 26) D) ∧ (∀ r, r < 256 → RUL (τ 26) D r → υ 17 (cnt (ob (RUL (τ 26) D)) r) = nI r) ∧ ∃ m, DO (τ 26) D 64 m ∧ ∀ p, p < 64 → υ 13 p = nI (m p) := by
  obtain ⟨τ3, e3⟩ : ∃ τ3 : Hp, τ3 = cpR (cpR (cpR τ 26 12 8) 19 15 64) 20 16 256 := ⟨_, rfl⟩
  have s3 : Sx cSt τ τ3 := by
    rw [e3]
    exact ((Sx.u (k := 12) (fun j hj => by cases hj)).tr (Sx.u (k := 15) (fun j hj => by cases hj))).tr (Sx.u (k := 16) (fun j hj => by cases hj))
  have a12 : ∀ j, j < 8 → τ3 12 j = τ 26 j := fun j hj => by
    rw [e3]
    show va_cpy (τ 26) (τ 12) 0 0 8 j = _
    exact sb_cpy0 hj
  have a15 : ∀ j, j < 64 → τ3 15 j = τ 19 j := fun j hj => by
    rw [e3]
    show va_cpy (τ 19) (τ 15) 0 0 64 j = _
    exact sb_cpy0 hj
  have a16 : ∀ j, j < 256 → τ3 16 j = τ 20 j := fun j hj => by
    rw [e3]
    show va_cpy (τ 20) (τ 16) 0 0 256 j = _
    exact sb_cpy0 hj
  have hQ3 : RB (τ3 15) D := fun p hp => by rw [a15 p hp]; exact hQ p hp
  obtain ⟨υ, d1, d2, d3, d4, d5, m, d6, d7⟩ := draw11 (N := N) (k := n) (τ := τ3) (D := D) (Bq := Bq) hN hn (fun j hj => by rw [a12 j hj]; exact hv j hj) (fun j h hj => by rw [a12 j hj]; exact hz j h hj) hQ3 (by rw [s3.row 4 (fun _ => rfl)]; exact hB)
  have hm : DO (τ 26) D 64 m := fun p hp => by
    obtain ⟨k1, k2, k3⟩ := d6 p hp
    refine ⟨k1, k2, fun e d hd => (k3 e d hd).trans ⟨fun ⟨q, a, b, c, f⟩ => ⟨q, a, ?_, ?_, f⟩, fun ⟨q, a, b, c, f⟩ => ⟨q, a, ?_, ?_, f⟩⟩⟩
    · rw [← a12 _ (by omega)]; exact b
    · rw [← a12 _ (by omega)]; exact c
    · rw [a12 _ (by omega)]; exact b
    · rw [a12 _ (by omega)]; exact c
  have cg1 : nRU (τ3 12) D = nRU (τ 26) D := nRU_cg a12 (fun _ _ => rfl)
  have cg2 : nST (τ3 12) D = nST (τ 26) D := nST_cg a12 (fun _ _ => rfl)
  rw [cg1] at d3
  rw [cg2] at d4
  have s4 : Sx cSt τ υ := s3.tr (d2.mono (fun k j q => by
    unfold cSt at q
    unfold cD11
    simp only [Bool.or_eq_false_iff, Bool.and_eq_false_iff, beq_eq_false_iff_ne] at q ⊢
    omega))
  obtain ⟨ω, l1, l2, l3, l4⟩ := list_y (N := N) (τ := upR (upR υ 10 (upd (υ 10) 4 (nI (csO rp sp (τ 26) D)))) 10 (upd (upd (υ 10) 4 (nI (csO rp sp (τ 26) D))) 5 1)) hN hm d7
  have s5 : Sx cSt τ (upR (upR υ 10 (upd (υ 10) 4 (nI (csO rp sp (τ 26) D)))) 10 (upd (upd (υ 10) 4 (nI (csO rp sp (τ 26) D))) 5 1)) := (s4.tr (Sx.ud rfl)).tr (Sx.ud (τ := upR υ 10 (upd (υ 10) 4 (nI (csO rp sp (τ 26) D)))) (k := 10) (i := 5) rfl)
  refine ⟨ω, ?_, s5.tr (l2.mono (fun k j q => by
    unfold cSt at q
    simp only [Bool.or_eq_false_iff, Bool.and_eq_false_iff, beq_eq_false_iff_ne] at q ⊢
    omega)), fun j hj => ?_, ?_, fun w hw => ?_, ?_, ?_, ?_, l3, l4, m, hm, fun p hp => ?_⟩
  · unfold f_Pl_settle f_Ly_copyRooms f_Nd_copyFrom
    rw [ilet_s, obd_s, ilet_s, ilet_s, obd_s]
    show obd (f_Ly_draw N 11 15 4 (cpR (cpR (cpR τ 26 12 8) 19 15 64) 20 16 256) (τ 1 3)) _ = _
    rw [← e3, h1, d1, obd_s]
    show obd (f_La_costOf N 5 υ (υ 11 2) (υ 11 3)) _ = _
    unfold f_La_costOf
    rw [d3, d4, s4 5 3 rfl, s4 5 4 rfl, h3, h4, pk_mul, pk_mul, nI_add, obd_s, ilet_s, ilet_s]
    show obd (f_Pl_listRules N 10 (upR (upR υ 10 (upd (υ 10) 4 (nI (csO rp sp (τ 26) D)))) 10 (upd (upd (υ 10) 4 (nI (csO rp sp (τ 26) D))) 5 1))) _ = _
    rw [l1, obd_s]
  · rw [l2 12 j rfl]
    show υ 12 j = _
    rw [d2 12 j rfl]; exact a12 j hj
  · have : ω 15 = τ3 15 := by
      rw [l2.row 15 (fun _ => rfl)]
      show υ 15 = _
      rw [d2.row 15 (fun _ => rfl)]
    rw [this]; exact hQ3
  · rw [l2 16 w rfl]
    show υ 16 w = _
    rw [d2 16 w rfl]; exact a16 w hw
  · rw [l2 10 5 rfl]; rfl
  · rw [l2 10 4 rfl]; rfl
  · rw [l2 11 3 rfl]; exact d4
  · rw [l2 13 p rfl]; exact d7 p hp
def cCm (k j : Nat) : Bool := k == 44 || k == 52 || k == 53 || k == 57 || (k == 42 && (j == 19 || j == 20 || j == 21))
theorem comes_y {N : Nat} {τ : Hp} {v1 : Int32} (hN : 1000 ≤ N) (h50 : ∀ w, w < 256 → τ 50 w = 0 ∨ τ 50 w = 1) (h56 : ∀ w, w < 256 → τ 56 w = 0 ∨ τ 56 w = 1) : ∃ υ, f_Mo_comes N 42 τ v1 = some (0, υ) ∧ Sx cCm τ υ ∧ υ 42 19 = 1 ∧ υ 42 20 = v1 ∧ υ 42 21 = τ 42 26 ∧ (∀ j, j < 8 → υ 44 j = τ 54 j) ∧ ∀ w, w < 256 → υ 52 w = τ 50 w ∧ υ 53 w = τ 51 w ∧ υ 57 w = τ 56 w := by
  have hnz : ∀ x : Int32, (x = 0 ∨ x = 1) → nz x = x := fun x h => h.elim (fun e => by rw [e]; rfl) (fun e => by rw [e]; rfl)
  unfold f_Mo_comes
  rw [ilet_s, ilet_s, ilet_s]
  obtain ⟨τ3, e3⟩ : ∃ τ3 : Hp, τ3 = upR (upR (upR τ 42 (upd (τ 42) 19 1)) 42 (upd (upd (τ 42) 19 1) 20 v1)) 42 (upd (upd (upd (τ 42) 19 1) 20 v1) 21 (τ 42 26)) := ⟨_, rfl⟩
  have s3 : Sx cCm τ τ3 := by
    rw [e3]
    exact ((Sx.ud rfl).tr (Sx.ud (τ := upR τ 42 (upd (τ 42) 19 1)) (k := 42) (i := 20) rfl)).tr (Sx.ud (τ := upR (upR τ 42 (upd (τ 42) 19 1)) 42 (upd (upd (τ 42) 19 1) 20 v1)) (k := 42) (i := 21) rfl)
  have f19 : τ3 42 19 = 1 ∧ τ3 42 20 = v1 ∧ τ3 42 21 = τ 42 26 := by rw [e3]; exact ⟨rfl, rfl, rfl⟩
  show ∃ υ, f_Mo_comes_L20 N 42 N (upR (upR (upR τ 42 (upd (τ 42) 19 1)) 42 (upd (upd (τ 42) 19 1) 20 v1)) 42 (upd (upd (upd (τ 42) 19 1) 20 v1) 21 (τ 42 26))) 0 = _ ∧ _
  rw [← e3]
  have st1 : ∃ υ, f_Mo_comes_L20 N 42 N τ3 0 = f_Mo_comes_L46 N 42 N υ 0 ∧ Sx (fun k _ => k == 44) τ3 υ ∧ ∀ j, j < 8 → υ 44 j = τ3 54 j := by
    refine lup (fun n' (s : Hp × Int32) => f_Mo_comes_L20 N 42 n' s.1 s.2) (fun i s => (Sx (fun k _ => k == 44) τ3 s.1 ∧ ∀ j, j < i → s.1 44 j = τ3 54 j) ∧ s.2 = nI i) (fun z => ∃ υ, z = f_Mo_comes_L46 N 42 N υ 0 ∧ Sx (fun k _ => k == 44) τ3 υ ∧ ∀ j, j < 8 → υ 44 j = τ3 54 j) 8 ?_ ?_ N 0 (τ3, 0) (Nat.zero_le _) (by omega) ⟨⟨Sx.rf, fun j hj => absurd hj (Nat.not_lt_zero j)⟩, rfl⟩
    · rintro n' ⟨υ, s2⟩ ⟨⟨g1, g2⟩, g3⟩
      dsimp only at g1 g2 g3 ⊢
      subst g3
      refine ⟨υ, ?_, g1, g2⟩
      show f_Mo_comes_L20b N 42 _ υ _ = _
      unfold f_Mo_comes_L20b
      rw [if_pos (show (8 : Int32) ≤ nI 8 by decide)]
    · rintro n' i ⟨υ, s2⟩ hi ⟨⟨g1, g2⟩, g3⟩
      dsimp only at g1 g2 g3 ⊢
      subst g3
      refine Or.inr ⟨(upR υ 44 (upd (υ 44) i (υ 54 i)), nI (i + 1)), ?_, ⟨g1.tr (Sx.ud rfl), fun j hj => ?_⟩, rfl⟩
      · show f_Mo_comes_L20b N 42 _ υ _ = _
        unfold f_Mo_comes_L20b
        rw [if_neg (show ¬ (8 : Int32) ≤ nI i from nI_ge (b := 8) hi (by omega)), ogd_t _ (inb_n hi (by omega)), ogd_t _ (inb_n hi (by omega)), ilet_s, ilet_s, nI_1, nI_clamp (by omega)]
      · show upd (υ 44) i (υ 54 i) j = _
        rw [upd_at]
        by_cases q : j = i
        · rw [if_pos q, q]; exact g1 54 i rfl
        · rw [if_neg q]; exact g2 j (by omega)
  obtain ⟨υ0, c1, c2, c3⟩ := st1
  rw [c1]
  refine lup (fun n' (s : Hp × Int32) => f_Mo_comes_L46 N 42 n' s.1 s.2) (fun i s => (Sx (fun k _ => k == 52 || k == 53 || k == 57) υ0 s.1 ∧ ∀ w, w < i → s.1 52 w = τ 50 w ∧ s.1 53 w = τ 51 w ∧ s.1 57 w = τ 56 w) ∧ s.2 = nI i) (fun z => ∃ υ, z = some (0, υ) ∧ Sx cCm τ υ ∧ υ 42 19 = 1 ∧ υ 42 20 = v1 ∧ υ 42 21 = τ 42 26 ∧ (∀ j, j < 8 → υ 44 j = τ 54 j) ∧ ∀ w, w < 256 → υ 52 w = τ 50 w ∧ υ 53 w = τ 51 w ∧ υ 57 w = τ 56 w) 256 ?_ ?_ N 0 (υ0, 0) (Nat.zero_le _) (by omega) ⟨⟨Sx.rf, fun w hw => absurd hw (Nat.not_lt_zero w)⟩, rfl⟩
  · rintro n' ⟨υ, s2⟩ ⟨⟨g1, g2⟩, g3⟩
    dsimp only at g1 g2 g3 ⊢
    subst g3
    refine ⟨υ, ?_, (s3.tr (c2.mono (fun k j q => by
      unfold cCm at q
      simp only [Bool.or_eq_false_iff, Bool.and_eq_false_iff, beq_eq_false_iff_ne] at q ⊢
      omega))).tr (g1.mono (fun k j q => by
      unfold cCm at q
      simp only [Bool.or_eq_false_iff, Bool.and_eq_false_iff, beq_eq_false_iff_ne] at q ⊢
      omega)), ?_, ?_, ?_, fun j hj => ?_, g2⟩
    · show f_Mo_comes_L46b N 42 _ υ _ = _
      unfold f_Mo_comes_L46b
      rw [if_pos (show (256 : Int32) ≤ nI 256 by decide)]
    · rw [g1 42 19 rfl, c2 42 19 rfl]; exact f19.1
    · rw [g1 42 20 rfl, c2 42 20 rfl]; exact f19.2.1
    · rw [g1 42 21 rfl, c2 42 21 rfl]; exact f19.2.2
    · rw [g1 44 j rfl, c3 j hj, s3 54 j rfl]
  · rintro n' i ⟨υ, s2⟩ hi ⟨⟨g1, g2⟩, g3⟩
    dsimp only at g1 g2 g3 ⊢
    subst g3
    have x50 : υ 50 i = τ 50 i := by rw [g1 50 i rfl, c2 50 i rfl, s3 50 i rfl]
    have x51 : υ 51 i = τ 51 i := by rw [g1 51 i rfl, c2 51 i rfl, s3 51 i rfl]
    have x56 : υ 56 i = τ 56 i := by rw [g1 56 i rfl, c2 56 i rfl, s3 56 i rfl]
    refine Or.inr ⟨(upR (upR (upR υ 52 (upd (υ 52) i (τ 50 i))) 53 (upd (υ 53) i (τ 51 i))) 57 (upd (υ 57) i (τ 56 i)), nI (i + 1)), ?_, ⟨((g1.tr (Sx.ud rfl)).tr (Sx.ud (k := 53) rfl)).tr (Sx.ud (k := 57) rfl), fun w hw => ?_⟩, rfl⟩
    · show f_Mo_comes_L46b N 42 _ υ _ = _
      unfold f_Mo_comes_L46b
      rw [if_neg (show ¬ (256 : Int32) ≤ nI i from nI_ge (b := 256) hi (by omega)), ogd_t _ (inb_n hi (by omega)), ogd_t _ (inb_n hi (by omega)), ilet_s, ogd_t _ (inb_n hi (by omega)), ogd_t _ (inb_n hi (by omega)), ilet_s, ogd_t _ (inb_n hi (by omega)), ogd_t _ (inb_n hi (by omega)), ilet_s, ilet_s, nI_1, nI_clamp (by omega)]
      show f_Mo_comes_L46 N 42 n' (upR (upR (upR υ 52 (upd (υ 52) i (nz (υ 50 i)))) 53 (upd (υ 53) i (υ 51 i))) 57 (upd (υ 57) i (nz (υ 56 i)))) (nI (i + 1)) = _
      rw [x50, x51, x56, hnz _ (h50 i hi), hnz _ (h56 i hi)]
    · show upd (υ 52) i (τ 50 i) w = _ ∧ upd (υ 53) i (τ 51 i) w = _ ∧ upd (υ 57) i (τ 56 i) w = _
      rw [upd_at, upd_at, upd_at]
      by_cases q : w = i
      · rw [if_pos q, if_pos q, if_pos q, q]; exact ⟨rfl, rfl, rfl⟩
      · rw [if_neg q, if_neg q, if_neg q]; exact g2 w (by omega)
theorem R01_cq {row : Nat → Int32} {P : Nat → Prop} (h : R01 row P) : ∀ k, k ≤ 256 → cq row k = cnt (ob P) k := fun k hk => cnt_ext k (fun r hr => by
  by_cases q : P r
  · rw [ob_t q, (h r (by omega)).1 q]; rfl
  · rw [ob_f q, (h r (by omega)).2 q]; rfl)
theorem ivp_mk {n R : Nat} {ω : Hp} {ρ D : Nat → Int32} {m : Nat → Nat} (hR : 1 ≤ R) (hIR : IR n R (ω 12) (ω 44)) (hρ : ∀ j, j < 8 → ω 12 j = ρ j) (hD : ∀ w, w < 256 → ω 52 w = D w) (h1 : ω 10 5 = 1) (h2 : ω 42 19 = 1) (h3 : ω 10 3 = nI (nRU ρ D)) (h4 : R01 (ω 57) (RUL ρ D)) (h5 : ∀ r, r < 256 → RUL ρ D r → ω 17 (cnt (ob (RUL ρ D)) r) = nI r) (h6 : DO ρ D 64 m) (h7 : ∀ p, p < 64 → ω 13 p = nI (m p)) (h8 : RB (ω 15) (ω 52)) (h9 : IWt (ω 16) (ω 53)) (h10 : ω 42 21 = ω 11 3) (h11 : ω 42 20 = ω 10 4) : IvP ω n 1 R := by
  have hcq := R01_cq h4
  have hone : ∀ r, r < 256 → (ω 57 r = 1 ↔ RUL ρ D r) := fun r hr => h4.one hr
  refine ⟨Or.inr rfl, fun e => absurd e (by decide), fun _ => hR, h1, h2, hIR, ⟨fun r hr => ?_, fun r hr e => ?_, ?_, ?_, fun r hr e => ?_, fun _ p hp => ?_⟩, h8, h9, fun r hr e => ?_, h10, h11⟩
  · by_cases q : RUL ρ D r
    · exact Or.inr ((h4 r hr).1 q)
    · exact Or.inl ((h4 r hr).2 q)
  · obtain ⟨a, w, b, c, d, _⟩ := (hone r hr).mp e
    have key : ∀ j x, j < 8 → x < 8 → ρ j = nI x → x < R := fun j x hj hx e => by
      rw [← hρ j hj] at e
      rcases (hIR.2.1 j hj).2 with q | ⟨_, y, hy, q⟩
      · exact absurd (q.symm.trans e) (nm1_ne' (by omega))
      · have := (nI_eq (by have := hIR.1; omega) (by omega)).mp (q.symm.trans e)
        omega
    exact ⟨key _ _ (by omega) (by omega) c, key _ _ (by omega) (by omega) d, a⟩
  · rw [h3, hcq 256 (Nat.le_refl _)]; rfl
  · rw [hcq 256 (Nat.le_refl _)]; exact RUL_cnt ρ D
  · rw [hcq r (by omega)]; exact h5 r hr ((hone r hr).mp e)
  · obtain ⟨k1, k2, k3⟩ := h6 p hp
    refine ⟨m p, k1, h7 p hp, k2, fun e d hd => ?_⟩
    have := h6.rul (r := 4 * p + d) (by omega)
    rw [show (4 * p + d) / 4 = p by omega, show (4 * p + d) % 4 = d by omega] at this
    rw [hone _ (by omega), this]
    exact ⟨fun q => ⟨e, q⟩, fun q => q.2⟩
  · obtain ⟨a, w, b, c, d, f, g⟩ := (hone r hr).mp e
    exact ⟨w, b, by rw [hD w b]; exact g, by rw [hρ _ (by omega)]; exact c, by rw [hρ _ (by omega)]; exact d, f⟩
