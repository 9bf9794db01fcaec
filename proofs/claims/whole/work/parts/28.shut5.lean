theorem l186_y {N c x : Nat} {τ υ : Hp} {T : Nat → Nat} {K : Hp → Int32 → Int32 → Int32 → Int32 → OR} {v1 v4 : Int32} (hN : 1000 ≤ N) (hF : Fre τ υ 256) (hTT : TT τ T) (hc : c = cnt (ob (Cn τ)) 256) (hc12 : c ≤ 12) (hx : x < 2 ^ 20) (h0 : ∀ r, r < 256 → υ 58 r = 0) : ∃ ρ k', (∀ r, r < 256 → ((Cn τ r ∧ x.testBit (cnt (ob (Cn τ)) r) = true) → ρ r = 1) ∧ (¬ (Cn τ r ∧ x.testBit (cnt (ob (Cn τ)) r) = true) → ρ r = 0)) ∧ f_Mo_shut_L186 N 42 K N υ v1 (nI c) v4 (nI x) 0 0 = f_Mo_shut_L186b N 42 K k' (upR υ 58 ρ) v1 (nI c) v4 (nI x) (nI (ss x T c)) (nI c) := by
  refine (lup (fun n' (s : (Nat → Int32) × Int32 × Int32) => f_Mo_shut_L186 N 42 K n' (upR υ 58 s.1) v1 (nI c) v4 (nI x) s.2.1 s.2.2) (fun i s => (∀ r, r < 256 → ((Cn τ r ∧ cnt (ob (Cn τ)) r < i ∧ x.testBit (cnt (ob (Cn τ)) r) = true) → s.1 r = 1) ∧ (¬ (Cn τ r ∧ cnt (ob (Cn τ)) r < i ∧ x.testBit (cnt (ob (Cn τ)) r) = true) → s.1 r = 0)) ∧ s.2.1 = nI (ss x T i) ∧ s.2.2 = nI i) (fun z => ∃ ρ k', (∀ r, r < 256 → ((Cn τ r ∧ x.testBit (cnt (ob (Cn τ)) r) = true) → ρ r = 1) ∧ (¬ (Cn τ r ∧ x.testBit (cnt (ob (Cn τ)) r) = true) → ρ r = 0)) ∧ z = f_Mo_shut_L186b N 42 K k' (upR υ 58 ρ) v1 (nI c) v4 (nI x) (nI (ss x T c)) (nI c)) c ?_ ?_ N 0 (υ 58, 0, 0) (Nat.zero_le _) (by omega) ⟨fun r hr => ⟨fun e => absurd e.2.1 (Nat.not_lt_zero _), fun _ => h0 r hr⟩, rfl, rfl⟩ |> fun h => by rw [upR_id] at h; exact h)
  · rintro n' ⟨ρ, s1, s2⟩ ⟨g1, g2, g3⟩
    dsimp only at g1 g2 g3 ⊢
    subst g2; subst g3
    refine ⟨ρ, _, fun r hr => ⟨fun e => (g1 r hr).1 ⟨e.1, by rw [hc]; exact cn_lt e.1 hr, e.2⟩, fun e => (g1 r hr).2 (fun e2 => e ⟨e2.1, e2.2.2⟩)⟩, rfl⟩
  · rintro n' i ⟨ρ, s1, s2⟩ hi ⟨g1, g2, g3⟩
    dsimp only at g1 g2 g3 ⊢
    subst g2; subst g3
    obtain ⟨r, hr, hcn, hci⟩ := cn_kth (P := Cn τ) (j := i) (n := 256) (by omega)
    have hf := hF r hr hcn
    have ht := hTT r hr hcn
    rw [hci] at hf ht
    refine Or.inr ?_
    show ∃ s' : (Nat → Int32) × Int32 × Int32, f_Mo_shut_L186b N 42 K _ _ _ _ _ _ _ _ = _ ∧ _
    unfold f_Mo_shut_L186b
    rw [if_neg (nI_ge hi (by omega))]
    have huq : ∀ r', Cn τ r' → cnt (ob (Cn τ)) r' = i → r' = r := fun r' h1 h2 => by
      rcases Nat.lt_trichotomy r' r with q7 | q7 | q7
      · have := cn_lt (P := Cn τ) h1 q7; omega
      · exact q7
      · have := cn_lt (P := Cn τ) hcn q7; omega
    by_cases q : x.testBit i = true
    · rw [if_neg (fun e => ((bt12 hx (by omega)).2.mp e) q), ogd_t _ (inb_n (i := i) (by omega) (by omega)), nI_clamp (by omega)]
      show ∃ s' : (Nat → Int32) × Int32 × Int32, ogd (inb (υ 59 i) 256) (ilet (upR (upR υ 58 ρ) 58 (upd ρ (Int32.toNatClampNeg (υ 59 i)) (nz 1))) fun τ13 => ogd (inb (nI i) 12) (ilet (nI (ss x T i) + τ13 60 i) fun x14 => ilet (nI i + 1) fun x15 => f_Mo_shut_L186 N 42 K n' τ13 v1 (nI c) v4 (nI x) x14 x15)) = _ ∧ _
      rw [hf.1, ogd_t _ (inb_n hr (by omega)), ilet_s, ogd_t _ (inb_n (i := i) (by omega) (by omega)), ilet_s, ilet_s, nI_1, nI_clamp (by omega), upR_2]
      refine ⟨(upd ρ r 1, nI (ss x T (i + 1)), nI (i + 1)), ?_, fun r' hr' => ?_, rfl, rfl⟩
      · show f_Mo_shut_L186 N 42 K n' (upR υ 58 (upd ρ r (nz 1))) v1 (nI c) v4 (nI x) (nI (ss x T i) + υ 60 i) _ = _
        rw [hf.2.2, ht.1, nI_add, ss, if_pos q]; rfl
      · show (_ → upd ρ r 1 r' = 1) ∧ (_ → upd ρ r 1 r' = 0)
        rw [upd_at]
        by_cases q2 : r' = r
        · rw [if_pos q2]
          exact ⟨fun _ => rfl, fun e => absurd ⟨by rw [q2]; exact hcn, by rw [q2]; omega, by rw [q2, hci]; exact q⟩ e⟩
        · rw [if_neg q2]
          refine ⟨fun e => (g1 r' hr').1 ⟨e.1, ?_, e.2.2⟩, fun e => (g1 r' hr').2 (fun e2 => e ⟨e2.1, by omega, e2.2.2⟩)⟩
          rcases Nat.lt_or_ge (cnt (ob (Cn τ)) r') i with q3 | q3
          · exact q3
          · exact absurd (huq r' e.1 (by omega)) q2
    · rw [if_pos ((bt12 hx (by omega)).2.mpr q), ilet_s, nI_1]
      refine ⟨(ρ, nI (ss x T i), nI (i + 1)), rfl, fun r' hr' => ?_, by rw [ss, if_neg q]; rfl, rfl⟩
      refine ⟨fun e => (g1 r' hr').1 ⟨e.1, ?_, e.2.2⟩, fun e => (g1 r' hr').2 (fun e2 => e ⟨e2.1, by omega, e2.2.2⟩)⟩
      rcases Nat.lt_or_ge (cnt (ob (Cn τ)) r') i with q3 | q3
      · exact q3
      · have := huq r' e.1 (by omega)
        subst this
        have h2 := e.2.2
        rw [hci] at h2
        exact absurd h2 q
theorem msp_y {N n R x : Nat} {τ ω : Hp} (hN : 1000 ≤ N) (hn : n ≤ 8) (h1 : τ 42 1 = nI n) (hP : IvP τ n 1 R) (hs : Sx cSm τ ω) (h58 : ∀ r, r < 256 → ((Cn τ r ∧ x.testBit (cnt (ob (Cn τ)) r) = true) → ω 58 r = 1) ∧ (¬ (Cn τ r ∧ x.testBit (cnt (ob (Cn τ)) r) = true) → ω 58 r = 0)) : ∃ ω', f_Mo_spreads N 42 ω = some (nI (Wd τ R x) - 1, ω') ∧ Sx (fun k j => k == 42 && j == 28) ω ω' := by
  have hIR := hP.2.2.2.2.2.1
  have hR := hIR.1
  have w57 : ω 57 = τ 57 := hs.row 57 (fun _ => rfl)
  have w44 : ω 44 = τ 44 := hs.row 44 (fun _ => rfl)
  have w12 : ω 12 = τ 12 := hs.row 12 (fun _ => rfl)
  obtain ⟨υ3, s1, s2, s3⟩ := spreads_y (N := N) (τ := ω) (n := n) (R := R) (v := vR τ (Px τ x)) hN hn ((hs 42 1 rfl).trans h1) (by rw [w12, w44]; exact hIR) (fun h a hh ha e υ hυ => by
    have x57 : υ 57 = τ 57 := (hυ.row 57 (fun _ => rfl)).trans w57
    have x44 : υ 44 = τ 44 := (hυ.row 44 (fun _ => rfl)).trans w44
    have x12 : υ 12 = τ 12 := (hυ.row 12 (fun _ => rfl)).trans w12
    have x58 : υ 58 = ω 58 := hυ.row 58 (fun _ => rfl)
    rw [w44] at e
    obtain ⟨m2, a1, a2, a3⟩ := reachOf_y (N := N) (τ := υ) hN hn ((hυ 42 1 rfl).trans ((hs 42 1 rfl).trans h1)) (by rw [x12, x44]; exact hIR) (by rw [x57]; exact hP.2.2.2.2.2.2.1.1) (fun r hr => by
      rw [x58]
      by_cases q : Cn τ r ∧ x.testBit (cnt (ob (Cn τ)) r) = true
      · exact Or.inr ((h58 r hr).1 q)
      · exact Or.inl ((h58 r hr).2 q)) hh (by rw [x44]; exact e) (show a < 8 by omega)
    have a4 : ∀ y, m2.testBit y = true ↔ Rch (Px τ x) a y := fun y => (a2 y).trans (Rch.cg (fun r hr => by
      unfold Pw Px; rw [x57, x58]
      by_cases q : Cn τ r ∧ x.testBit (cnt (ob (Cn τ)) r) = true
      · rw [(h58 r hr).1 q]; exact ⟨fun e => absurd e.2 (by decide), fun e => absurd q e.2⟩
      · rw [(h58 r hr).2 q]; exact ⟨fun e => ⟨e.1, q⟩, fun e => ⟨e.1, rfl⟩⟩))
    have e12 : τ 12 h = nI a := (hIR.2.1 h (by omega)).1.symm.trans e
    have hh8 : hcm (τ 44) m2 8 = vR τ (Px τ x) a := by
      rw [hcm_cg (ro := τ 12) 8 (fun j hj => (hIR.2.1 j hj).1), hcm_vR hIR.rv a4]
    refine ⟨?_, by have := vR_le (τ := τ) (P := Px τ x) (a := a); omega, ?_⟩
    · rw [← hh8]; exact hcm_pos (show h < 8 by omega) (show a < 8 by omega) e ((a4 a).mpr (Rch.rf a))
    · rw [a3, x44, hh8])
  exact ⟨υ3, s1, s2⟩
theorem Fre.cg {τ υ υ' : Hp} {m : Nat} (h : Fre τ υ m) (h59 : υ' 59 = υ 59) (h60 : υ' 60 = υ 60) (h61 : υ' 61 = υ 61) : Fre τ υ' m := fun r hr hc => by rw [h59, h60, h61]; exact h r hr hc
theorem l168_y {N n R c v : Nat} {τ υ0 : Hp} {T : Nat → Nat} (hN : 1000000 ≤ N) (hn : n ≤ 8) (h1 : τ 42 1 = nI n) (hP : IvP τ n 1 R) (hs : Sx cSm τ υ0) (hF : Fre τ υ0 256) (hTT : TT τ T) (hc : c = cnt (ob (Cn τ)) 256) (hc12 : c ≤ 12) (hv : v < 9) : ((∀ y, y < 2 ^ c → ¬ OkS τ R v y) ∧ ∃ υ, f_Mo_shut_L168 N 42 N υ0 (nI v) (nI c) (-1) 0 = some ((-1), υ) ∧ Sx cSm τ υ) ∨ ∃ b, b < 2 ^ c ∧ Bst τ R v c T (2 ^ c) b ∧ ∃ υ, Sx cSm τ υ ∧ Fre τ υ 256 ∧ υ 42 32 = nI b ∧ f_Mo_shut_L168 N 42 N υ0 (nI v) (nI c) (-1) 0 = f_Mo_shut_L292 N 42 N (upR υ 42 (upd (υ 42) 34 0)) (nI c) (nI (ss b T c)) 0 := by
  have h12 : 2 ^ c ≤ 4096 := Nat.pow_le_pow_right (n := 2) (j := 12) (by omega) hc12
  have hp : 1 ≤ 2 ^ c := Nat.one_le_two_pow
  have hsb : ∀ x, ss x T c < 2 ^ 31 := fun x => by
    have h1 := ss_bd (x := x) (T := T) (B := 19180800) c (fun i hi => by
      obtain ⟨r, hr, hcn, hci⟩ := cn_kth (P := Cn τ) (j := i) (n := 256) (by omega)
      have := (hTT r hr hcn).2.2
      rw [hci] at this; exact this)
    have h2 : c * 19180800 ≤ 12 * 19180800 := Nat.mul_le_mul_right _ hc12
    omega
  refine lup (fun n' (s : Hp × Int32 × Int32) => f_Mo_shut_L168 N 42 n' s.1 (nI v) (nI c) s.2.1 s.2.2) (fun i s => (Sx cSm τ s.1 ∧ Fre τ s.1 256 ∧ ((s.2.1 = (-1) ∧ ∀ y, y < i → ¬ OkS τ R v y) ∨ ∃ b, b < i ∧ Bst τ R v c T i b ∧ s.2.1 = nI (ss b T c) ∧ s.1 42 32 = nI b)) ∧ s.2.2 = nI i) (fun z => ((∀ y, y < 2 ^ c → ¬ OkS τ R v y) ∧ ∃ υ, z = some ((-1), υ) ∧ Sx cSm τ υ) ∨ ∃ b, b < 2 ^ c ∧ Bst τ R v c T (2 ^ c) b ∧ ∃ υ, Sx cSm τ υ ∧ Fre τ υ 256 ∧ υ 42 32 = nI b ∧ z = f_Mo_shut_L292 N 42 N (upR υ 42 (upd (υ 42) 34 0)) (nI c) (nI (ss b T c)) 0) (2 ^ c) ?_ ?_ N 0 (υ0, (-1), 0) (Nat.zero_le _) (by omega) ⟨⟨hs, hF, Or.inl ⟨rfl, fun y hy => absurd hy (Nat.not_lt_zero y)⟩⟩, rfl⟩
  · rintro n' ⟨υ, s1, s2⟩ ⟨⟨g1, g2, g3⟩, g4⟩
    dsimp only at g1 g2 g3 g4 ⊢
    subst g4
    have e0 : f_Mo_shut_L168 N 42 (n' + 1) υ (nI v) (nI c) s1 (nI (2 ^ c)) = if s1 = (-1) then some ((-1), υ) else ilet (upR υ 42 (upd (υ 42) 34 0)) fun τ1 => f_Mo_shut_L292 N 42 N τ1 (nI c) s1 0 := by
      show f_Mo_shut_L168b N 42 _ _ _ _ _ _ = _
      unfold f_Mo_shut_L168b
      rw [sh13 c (by omega), if_pos (nI_le (Nat.le_refl _) (by omega))]
    rw [e0]
    rcases g3 with ⟨g3, g5⟩ | ⟨b, b1, b2, b3, b4⟩
    · exact Or.inl ⟨g5, υ, by rw [if_pos g3], g1⟩
    · refine Or.inr ⟨b, b1, b2, υ, g1, g2, b4, ?_⟩
      subst b3
      rw [if_neg (nm1_ne (hsb b)), ilet_s]
  · rintro n' i ⟨υ, s1, s2⟩ hi ⟨⟨g1, g2, g3⟩, g4⟩
    dsimp only at g1 g2 g3 g4 ⊢
    subst g4
    refine Or.inr ?_
    obtain ⟨υ1, o1, o2, o3⟩ := opens_y (N := N) (τ := υ) (by omega)
    have hs1 : Sx cSm τ υ1 := g1.tr (o2.mono (fun k j q => by
      unfold cSm at q
      simp only [Bool.or_eq_false_iff, Bool.and_eq_false_iff, beq_eq_false_iff_ne] at q ⊢
      omega))
    have hF1 : Fre τ υ1 256 := g2.cg (o2.row 59 (fun _ => rfl)) (o2.row 60 (fun _ => rfl)) (o2.row 61 (fun _ => rfl))
    have x32 : υ1 42 32 = υ 42 32 := o2 42 32 rfl
    obtain ⟨ρ, k', l1, l2⟩ := l186_y (N := N) (K := f_Mo_shut_L168 N 42 n') (v1 := nI v) (v4 := s1) (x := i) (by omega) hF1 hTT hc hc12 (by omega) o3
    have hs2 : Sx cSm τ (upR υ1 58 ρ) := hs1.tr (Sx.u (fun j hj => by cases hj))
    obtain ⟨ω, m1, m2⟩ := msp_y (N := N) (x := i) (by omega) hn h1 hP hs2 l1
    have hs3 : Sx cSm τ ω := hs2.tr (m2.mono (fun k j q => by
      unfold cSm at q
      simp only [Bool.or_eq_false_iff, Bool.and_eq_false_iff, beq_eq_false_iff_ne] at q ⊢
      omega))
    have hF3 : Fre τ ω 256 := hF1.cg (m2.row 59 (fun _ => rfl)) (m2.row 60 (fun _ => rfl)) (m2.row 61 (fun _ => rfl))
    have y32 : ω 42 32 = υ 42 32 := (m2 42 32 rfl).trans x32
    have hw := (wle (Wd τ R i) Wd_lt v hv).1
    have e0 : f_Mo_shut_L168 N 42 (n' + 1) υ (nI v) (nI c) s1 (nI i) = (if s1 = (-1) ∨ ¬ s1 ≤ nI (ss i T c) then (if Wd τ R i ≤ v + 1 then f_Mo_shut_L168 N 42 n' (upR ω 42 (upd (ω 42) 32 (nI i))) (nI v) (nI c) (nI (ss i T c)) (nI (i + 1)) else f_Mo_shut_L168 N 42 n' ω (nI v) (nI c) s1 (nI (i + 1))) else f_Mo_shut_L168 N 42 n' (upR υ1 58 ρ) (nI v) (nI c) s1 (nI (i + 1))) := by
      show f_Mo_shut_L168b N 42 _ _ _ _ _ _ = _
      unfold f_Mo_shut_L168b
      rw [sh13 c (by omega), if_neg (nI_ge hi (by omega)), o1, obd_s, l2]
      unfold f_Mo_shut_L186b
      rw [if_pos (nI_le (Nat.le_refl _) (by omega)), m1]
      by_cases q1 : s1 = (-1)
      · rw [if_pos q1, if_pos (Or.inl q1), obd_s]
        by_cases q2 : Wd τ R i ≤ v + 1
        · rw [if_pos (hw.mpr q2), if_pos q2, ilet_s, ilet_s, nI_1]
        · rw [if_neg (fun e => q2 (hw.mp e)), if_neg q2, ilet_s, nI_1]
      · rw [if_neg q1]
        by_cases q3 : s1 ≤ nI (ss i T c)
        · rw [if_pos q3, if_neg (fun e => e.elim q1 (fun e => e q3)), ilet_s, nI_1]
        · rw [if_neg q3, if_pos (Or.inr q3), obd_s]
          by_cases q2 : Wd τ R i ≤ v + 1
          · rw [if_pos (hw.mpr q2), if_pos q2, ilet_s, ilet_s, nI_1]
          · rw [if_neg (fun e => q2 (hw.mp e)), if_neg q2, ilet_s, nI_1]
    rw [e0]
    by_cases q : s1 = (-1) ∨ ¬ s1 ≤ nI (ss i T c)
    · rw [if_pos q]
      by_cases q2 : Wd τ R i ≤ v + 1
      · rw [if_pos q2]
        refine ⟨(upR ω 42 (upd (ω 42) 32 (nI i)), nI (ss i T c), nI (i + 1)), rfl, ⟨hs3.tr (Sx.ud rfl), hF3, Or.inr ⟨i, by omega, ⟨q2, fun y hy ho => ?_⟩, rfl, rfl⟩⟩, rfl⟩
        rcases Nat.lt_or_ge y i with q3 | q3
        · rcases g3 with ⟨_, g5⟩ | ⟨b, b1, b2, b3, b4⟩
          · exact absurd ho (g5 y q3)
          · have h5 := (b2.2 y q3 ho).1
            have h6 : ss i T c < ss b T c := by
              rcases q with q | q
              · exact absurd (b3.symm.trans q) (nm1_ne (hsb b))
              · rw [b3] at q
                exact Nat.lt_of_not_le (fun e => q (nI_le e (hsb i)))
            exact ⟨by omega, fun _ => by omega⟩
        · have : y = i := by omega
          subst this; exact ⟨Nat.le_refl _, fun e => absurd e (Nat.lt_irrefl _)⟩
      · rw [if_neg q2]
        refine ⟨(ω, s1, nI (i + 1)), rfl, ⟨hs3, hF3, g3.imp (fun ⟨a, b⟩ => ⟨a, fun y hy => ?_⟩) (fun ⟨b, b1, b2, b3, b4⟩ => ⟨b, by omega, ⟨b2.1, fun y hy ho => ?_⟩, b3, y32.trans b4⟩)⟩, rfl⟩
        · rcases Nat.lt_or_ge y i with q3 | q3
          · exact b y q3
          · have : y = i := by omega
            subst this; exact q2
        · rcases Nat.lt_or_ge y i with q3 | q3
          · exact b2.2 y q3 ho
          · have : y = i := by omega
            subst this; exact absurd ho q2
    · rw [if_neg q]
      refine ⟨(upR υ1 58 ρ, s1, nI (i + 1)), rfl, ⟨hs2, hF1, ?_⟩, rfl⟩
      rcases g3 with ⟨g3, _⟩ | ⟨b, b1, b2, b3, b4⟩
      · exact absurd (Or.inl g3) q
      · have hle : ss b T c ≤ ss i T c := by
          rcases Nat.lt_or_ge (ss i T c) (ss b T c) with q5 | q5
          · exact absurd (Or.inr (by rw [b3]; exact nI_ge q5 (hsb b))) q
          · exact q5
        refine Or.inr ⟨b, by omega, ⟨b2.1, fun y hy ho => ?_⟩, b3, x32.trans b4⟩
        rcases Nat.lt_or_ge y i with q3 | q3
        · exact b2.2 y q3 ho
        · have : y = i := by omega
          subst this
          exact ⟨hle, fun e => by omega⟩
theorem l292_y {N c b : Nat} {υ : Hp} {v4 : Int32} (hN : 1000 ≤ N) (hc : c ≤ 12) (hb : b < 2 ^ 20) (h32 : υ 42 32 = nI b) : ∃ υ', f_Mo_shut_L292 N 42 N (upR υ 42 (upd (υ 42) 34 0)) (nI c) v4 0 = some (v4, υ') ∧ Sx (fun k j => k == 62 || (k == 42 && j == 34)) υ υ' ∧ υ' 42 34 = nI (bc b c) ∧ ∀ i, i < c → b.testBit i = true → υ' 62 (bc b i) = υ 61 i := by
  refine lup (fun n' (s : Hp × Int32) => f_Mo_shut_L292 N 42 n' s.1 (nI c) v4 s.2) (fun i s => (Sx (fun k j => k == 62 || (k == 42 && j == 34)) υ s.1 ∧ s.1 42 34 = nI (bc b i) ∧ ∀ k, k < i → b.testBit k = true → s.1 62 (bc b k) = υ 61 k) ∧ s.2 = nI i) (fun z => ∃ υ', z = some (v4, υ') ∧ Sx (fun k j => k == 62 || (k == 42 && j == 34)) υ υ' ∧ υ' 42 34 = nI (bc b c) ∧ ∀ i, i < c → b.testBit i = true → υ' 62 (bc b i) = υ 61 i) c ?_ ?_ N 0 (upR υ 42 (upd (υ 42) 34 0), 0) (Nat.zero_le _) (by omega) ⟨⟨Sx.ud rfl, rfl, fun k hk => absurd hk (Nat.not_lt_zero k)⟩, rfl⟩
  · rintro n' ⟨ω, s2⟩ ⟨⟨g1, g2, g3⟩, g4⟩
    dsimp only at g1 g2 g3 g4 ⊢
    subst g4
    refine ⟨ω, ?_, g1, g2, g3⟩
    show f_Mo_shut_L292b N 42 _ ω _ _ _ = _
    unfold f_Mo_shut_L292b
    rw [if_pos (nI_le (Nat.le_refl _) (by omega))]
  · rintro n' i ⟨ω, s2⟩ hi ⟨⟨g1, g2, g3⟩, g4⟩
    dsimp only at g1 g2 g3 g4 ⊢
    subst g4
    refine Or.inr ?_
    show ∃ s' : Hp × Int32, f_Mo_shut_L292b N 42 _ ω _ _ _ = _ ∧ _
    unfold f_Mo_shut_L292b
    rw [if_neg (nI_ge hi (by omega)), g1 42 32 rfl, h32]
    by_cases q : b.testBit i = true
    · have hle : bc b i ≤ i := cn_le _ i
      rw [if_neg (fun e => ((bt12 hb (by omega)).2.mp e) q), ogd_t _ (inb_n (i := i) (by omega) (by omega)), g2, ogd_t _ (inb_n (i := bc b i) (by omega) (by omega)), ilet_s, ilet_s, ilet_s, nI_1, nI_clamp (by omega), nI_clamp (by omega)]
      refine ⟨(upR (upR ω 62 (upd (ω 62) (bc b i) (ω 61 i))) 42 (upd (ω 42) 34 (nI (bc b (i + 1)))), nI (i + 1)), ?_, ⟨(g1.tr (Sx.ud rfl)).tr (Sx.ud (k := 42) (i := 34) rfl), rfl, fun k hk hk2 => ?_⟩, rfl⟩
      · show f_Mo_shut_L292 N 42 n' (upR (upR ω 62 (upd (ω 62) (bc b i) (ω 61 i))) 42 (upd (ω 42) 34 (ω 42 34 + 1))) (nI c) v4 (nI (i + 1)) = _
        rw [g2, nI_1]
        unfold bc
        rw [cn_y (P := fun k => b.testBit k = true) q]
      · show upd (ω 62) (bc b i) (ω 61 i) (bc b k) = υ 61 k
        rcases Nat.lt_or_ge k i with q2 | q2
        · have := cn_lt (P := fun k => b.testBit k = true) hk2 q2
          unfold bc
          rw [upd_at, if_neg (by omega)]
          exact g3 k q2 hk2
        · have : k = i := by omega
          subst this
          rw [upd_eq]; exact g1 61 k rfl
    · rw [if_pos ((bt12 hb (by omega)).2.mpr q), ilet_s, nI_1]
      refine ⟨(ω, nI (i + 1)), rfl, ⟨g1, ?_, fun k hk hk2 => ?_⟩, rfl⟩
      · unfold bc; rw [cn_n (P := fun k => b.testBit k = true) q]; exact g2
      · rcases Nat.lt_or_ge k i with q2 | q2
        · exact g3 k q2 hk2
        · have : k = i := by omega
          subst this; exact absurd hk2 q
