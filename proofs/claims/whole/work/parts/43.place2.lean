theorem UN_pl {mk ρ0 : Nat → Int32} {n h c : Nat} (hn : n ≤ 8) (hc : c < 8) (hz : ∀ j, n ≤ j → j < 8 → ρ0 j = (-1)) : UN mk (plR ρ0 h c) h ↔ ∃ j, j < n ∧ j ≠ h ∧ ρ0 j = nI c ∧ mk j ≠ mk h := by
  have e1 : plR ρ0 h c h = nI c := if_pos rfl
  constructor
  · rintro ⟨j, a, b, d⟩
    have q : j ≠ h := fun e => d (by rw [e])
    rw [e1, show plR ρ0 h c j = ρ0 j from if_neg q] at b
    refine ⟨j, Nat.lt_of_not_le (fun e => ?_), q, b, d⟩
    exact absurd ((hz j e a).symm.trans b) (nm1_ne' (by omega))
  · rintro ⟨j, a, q, b, d⟩
    exact ⟨j, by omega, by rw [e1, show plR ρ0 h c j = ρ0 j from if_neg q]; exact b, d⟩
section PM
variable {N n h R rp sp : Nat} {τ : Hp} {D B ρ0 mk : Nat → Int32} {S : Prop}
def PMI (τ : Hp) (P : Nat → Prop) (k : Nat → Nat) (i : Nat) (s : Hp × Int32 × Int32 × Int32) : Prop := (Sx cPl τ s.1 ∧
  ((s.2.1 = (-1) ∧ s.2.2.1 = (-1) ∧ ∀ c, c < i → ¬ P c) ∨ ∃ b, b < i ∧ s.2.1 = nI (k b) ∧ s.2.2.1 = nI b ∧ P b ∧ ∀ c, c < i → P c → k b ≤ k c ∧ (c < b → k b < k c))) ∧ s.2.2.2 = nI i
def PMQ (τ : Hp) (P : Nat → Prop) (k : Nat → Nat) (D ρ0 : Nat → Int32) (h e : Nat) (z : OR) : Prop := ∃ v, PB P k e v ∧ ((v = (-1) ∧ ∃ υ, z = some ((-1), υ) ∧ Sx cPl τ υ) ∨ ∃ b ω, b < 8 ∧ P b ∧ v = nI b ∧ z = some (nI b, ω) ∧ Sx cPm τ ω ∧ ω 42 19 = 1 ∧ ω 42 20 = nI (k b) ∧ ω 42 21 = nI (nST (plR ρ0 h b) D) ∧ (∀ j, j < 8 → ω 44 j = plR ρ0 h b j) ∧ (∀ w, w < 256 → ω 52 w = D w ∧ ω 53 w = τ 51 w) ∧ R01 (ω 57) (RUL (plR ρ0 h b) D))
theorem pm_end {v4 v5 : Int32} {υ : Hp} {i : Nat} (hN : 1000 ≤ N) (hn : n ≤ 8) (hh : h < n) (h1 : τ 42 1 = nI n) (h13 : τ 42 13 = nI rp) (h14 : τ 42 14 = nI sp) (hD : ∀ w, w < 256 → τ 50 w = D w ∧ (D w = 0 ∨ D w = 1)) (hB : ∀ w, w < 256 → τ 49 w = B w ∧ (B w = 0 ∨ B w = 1)) (hρ : ∀ j, j < 8 → τ 44 j = ρ0 j) (hv : RV ρ0) (hz : ∀ j, n ≤ j → j < 8 → ρ0 j = (-1)) (hi : i ≤ 8) (H : PMI τ (PP mk S D B ρ0 h) (kk rp sp D ρ0 h) i (υ, v4, v5, nI i)) : PMQ τ (PP mk S D B ρ0 h) (kk rp sp D ρ0 h) D ρ0 h i (f_Mo_place_J140 N 42 υ (nI h) v5) := by
  obtain ⟨⟨sx, H⟩, _⟩ := H
  dsimp only at sx H
  unfold f_Mo_place_J140
  rcases H with ⟨a1, a2, a3⟩ | ⟨b, a1, a2, a3, a4, a5⟩
  · subst a2
    rw [if_pos rfl]
    exact ⟨-1, Or.inl ⟨rfl, a3⟩, Or.inl ⟨rfl, υ, rfl, sx⟩⟩
  · subst a3
    obtain ⟨ρ, p1, p2⟩ := puts_y (N := N) (h := h) (υ := υ) (x := nI b) hN (by omega)
    rw [if_neg (nm1_ne (by omega)), p1, obd_s]
    have s1 : Sx cPl τ (upR υ 54 ρ) := sx.tr (Sx.u (fun j q => by cases q))
    obtain ⟨ω, c1, c2, c3⟩ := cc_y (N := N) (n := n) (rp := rp) (sp := sp) (τ := upR υ 54 ρ) (D := D) (B := B) (ρ := plR ρ0 h b) (nI b) hN hn (by rw [s1 42 1 rfl]; exact h1) (by rw [s1 42 13 rfl]; exact h13) (by rw [s1 42 14 rfl]; exact h14) (fun j hj => by
      rw [upR_eq, p2 j hj, sx 44 j rfl, hρ j hj]; rfl) (plR_rv hv (by omega)) (plR_z hh hz) (fun w hw => by rw [s1 50 w rfl]; exact hD w hw) (fun w hw => by rw [s1 49 w rfl]; exact hB w hw) a4.2
    refine ⟨nI b, Or.inr ⟨b, a1, rfl, a4, a5⟩, Or.inr ⟨b, ω, by omega, a4, rfl, c1, ?_, c3.1, c3.2.1, c3.2.2.1, c3.2.2.2.1, fun w hw => ⟨(c3.2.2.2.2.1 w hw).1, (c3.2.2.2.2.1 w hw).2.trans (s1 51 w rfl)⟩, c3.2.2.2.2.2⟩⟩
    have m4 : Sx cPm τ (upR υ 54 ρ) := s1.mono (fun k j q => by
      unfold cPm at q
      unfold cPl
      simp only [Bool.or_eq_false_iff, Bool.and_eq_false_iff, beq_eq_false_iff_ne] at q ⊢
      omega)
    exact m4.tr (c2.mono (fun k j q => by
      unfold cPm at q
      unfold cCc
      simp only [Bool.or_eq_false_iff, Bool.and_eq_false_iff, beq_eq_false_iff_ne] at q ⊢
      omega))
theorem placeM_y (hN : 1000 ≤ N) (hn : n ≤ 8) (hh : h < n) (h1 : τ 42 1 = nI n) (h12 : τ 42 12 = 0 ∨ τ 42 12 = 1) (hS : τ 42 12 = 1 ↔ S) (h13 : τ 42 13 = nI rp) (h14 : τ 42 14 = nI sp) (hrp : rp ≤ 99) (hsp : sp ≤ 99) (hD : ∀ w, w < 256 → τ 50 w = D w ∧ (D w = 0 ∨ D w = 1)) (hB : ∀ w, w < 256 → τ 49 w = B w ∧ (B w = 0 ∨ B w = 1)) (hρ : ∀ j, j < 8 → τ 44 j = ρ0 j) (hmk : ∀ j, j < 8 → τ 43 j = mk j) (hv : RV ρ0) (hz : ∀ j, n ≤ j → j < 8 → ρ0 j = (-1)) (hR : R ≤ 8) : PMQ τ (PP mk S D B ρ0 h) (kk rp sp D ρ0 h) D ρ0 h (min (R + 1) 8) (f_Mo_place_L58 N 42 N τ (nI h) (nI R) (-1) (-1) 0) := by
  refine lup (fun n' (s : Hp × Int32 × Int32 × Int32) => f_Mo_place_L58 N 42 n' s.1 (nI h) (nI R) s.2.1 s.2.2.1 s.2.2.2) (PMI τ (PP mk S D B ρ0 h) (kk rp sp D ρ0 h)) (PMQ τ (PP mk S D B ρ0 h) (kk rp sp D ρ0 h) D ρ0 h (min (R + 1) 8)) (min (R + 1) 8) ?_ ?_ N 0 (τ, -1, -1, 0) (Nat.zero_le _) (by omega) ⟨⟨Sx.rf, Or.inl ⟨rfl, rfl, fun c hc => absurd hc (Nat.not_lt_zero c)⟩⟩, rfl⟩
  · rintro n' ⟨υ, v4, v5, v6⟩ H
    have e6 : v6 = nI (min (R + 1) 8) := H.2
    subst e6
    have fin := pm_end (N := N) hN hn hh h1 h13 h14 hD hB hρ hv hz (by omega) H
    show PMQ _ _ _ _ _ _ _ (f_Mo_place_L58b N 42 _ υ (nI h) (nI R) v4 v5 (nI (min (R + 1) 8)))
    unfold f_Mo_place_L58b
    by_cases q : R < min (R + 1) 8
    · rw [if_pos (nI_lt q (by omega))]; exact fin
    · rw [if_neg (nI_nlt (by omega) (by omega)), if_pos (show (8 : Int32) ≤ nI (min (R + 1) 8) from nI_le (a := 8) (by omega) (by omega))]; exact fin
  · rintro n' i ⟨υ, v4, v5, v6⟩ hi ⟨⟨sx, H⟩, e6⟩
    dsimp only at sx H e6 ⊢
    subst e6
    refine Or.inr ?_
    show ∃ s', f_Mo_place_L58b N 42 (f_Mo_place_L58 N 42 n') υ (nI h) (nI R) v4 v5 (nI i) = _ ∧ _
    unfold f_Mo_place_L58b
    obtain ⟨ρ, p1, p2⟩ := puts_y (N := N) (h := h) (υ := υ) (x := nI i) hN (by omega)
    rw [if_neg (nI_nlt (show i ≤ R by omega) (by omega)), if_neg (show ¬ (8 : Int32) ≤ nI i from nI_ge (b := 8) (by omega) (by omega)), p1, obd_s]
    obtain ⟨υ1, e1⟩ : ∃ x : Hp, x = upR υ 54 ρ := ⟨_, rfl⟩
    rw [← e1]
    have s1 : Sx cPl τ υ1 := sx.tr (by rw [e1]; exact Sx.u (fun j q => by cases q))
    have r54 : ∀ j, j < 8 → υ1 54 j = plR ρ0 h i j := fun j hj => by
      rw [e1, upR_eq, p2 j hj, sx 44 j rfl, hρ j hj]; rfl
    have cs : kk rp sp D ρ0 h i ≤ 50688 := csO_le hrp hsp
    obtain ⟨υ2, c1, _, c3⟩ := costs_y (N := N) (n := n) (rp := rp) (sp := sp) (τ := υ1) (D := D) (B := B) hN hn (by rw [s1 42 1 rfl]; exact h1) (by rw [s1 42 13 rfl]; exact h13) (by rw [s1 42 14 rfl]; exact h14) (fun j hj => by rw [r54 j hj]; exact plR_rv hv (by omega) j hj) (fun j a b => by rw [r54 j b]; exact plR_z hh hz j a b) (fun w hw => by rw [s1 50 w rfl]; exact hD w hw) (fun w hw => by rw [s1 49 w rfl]; exact hB w hw)
    rw [BRD.cg r54 (fun _ _ => rfl) (fun _ _ => rfl), csO_cg r54 (fun _ _ => rfl)] at c3
    have s2 : Sx cPl τ υ2 := s1.tr (c1.mono (fun k j q => by
      unfold cPl at q
      unfold cCo
      simp only [Bool.or_eq_false_iff, Bool.and_eq_false_iff, beq_eq_false_iff_ne] at q ⊢
      omega))
    have skip : ∀ ω : Hp, Sx cPl τ ω → ¬ PP mk S D B ρ0 h i → ∃ s', f_Mo_place_L58 N 42 n' ω (nI h) (nI R) v4 v5 (nI (i + 1)) = f_Mo_place_L58 N 42 n' s'.1 (nI h) (nI R) s'.2.1 s'.2.2.1 s'.2.2.2 ∧ PMI τ (PP mk S D B ρ0 h) (kk rp sp D ρ0 h) (i + 1) s' := fun ω hω np => by
      refine ⟨(ω, v4, v5, nI (i + 1)), rfl, ⟨hω, ?_⟩, rfl⟩
      have key : ∀ c, c < i + 1 → PP mk S D B ρ0 h c → c < i := fun c hc p => by
        rcases Nat.lt_or_ge c i with q | q
        · exact q
        · have : c = i := by omega
          subst this; exact absurd p np
      rcases H with ⟨a1, a2, a3⟩ | ⟨b, a1, a2, a3, a4, a5⟩
      · exact Or.inl ⟨a1, a2, fun c hc p => a3 c (key c hc p) p⟩
      · exact Or.inr ⟨b, by omega, a2, a3, a4, fun c hc p => a5 c (key c hc p) p⟩
    have j98 : (S → ¬ UN mk (plR ρ0 h i) h) → ∃ s', f_Mo_place_J98 N 42 (f_Mo_place_L58 N 42 n') υ1 (nI h) (nI R) v4 v5 (nI i) = f_Mo_place_L58 N 42 n' s'.1 (nI h) (nI R) s'.2.1 s'.2.2.1 s'.2.2.2 ∧ PMI τ (PP mk S D B ρ0 h) (kk rp sp D ρ0 h) (i + 1) s' := fun hu => by
      unfold f_Mo_place_J98
      rcases c3 with ⟨e, f⟩ | ⟨e, f, _⟩
      · rw [f, obd_s, if_pos rfl, ilet_s, nI_1]
        exact skip υ2 s2 (fun q => q.2 e)
      · rw [f, obd_s, show csO rp sp (plR ρ0 h i) D = kk rp sp D ρ0 h i from rfl, if_neg (nm1_ne (by omega)), nI_1]
        have take : (∀ c, c < i → PP mk S D B ρ0 h c → kk rp sp D ρ0 h i < kk rp sp D ρ0 h c) → ∃ s', f_Mo_place_L58 N 42 n' υ2 (nI h) (nI R) (nI (kk rp sp D ρ0 h i)) (nI i) (nI (i + 1)) = f_Mo_place_L58 N 42 n' s'.1 (nI h) (nI R) s'.2.1 s'.2.2.1 s'.2.2.2 ∧ PMI τ (PP mk S D B ρ0 h) (kk rp sp D ρ0 h) (i + 1) s' := fun hl => by
          refine ⟨(υ2, nI (kk rp sp D ρ0 h i), nI i, nI (i + 1)), rfl, ⟨s2, Or.inr ⟨i, by omega, rfl, rfl, ⟨hu, e⟩, fun c hc p => ?_⟩⟩, rfl⟩
          rcases Nat.lt_or_ge c i with q | q
          · have := hl c q p
            exact ⟨by omega, fun _ => this⟩
          · have : c = i := by omega
            subst this
            exact ⟨Nat.le_refl _, fun q => absurd q (Nat.lt_irrefl _)⟩
        rcases H with ⟨a1, a2, a3⟩ | ⟨b, a1, a2, a3, a4, a5⟩
        · rw [if_pos a1, ilet_s]
          exact take (fun c hc p => absurd p (a3 c hc))
        · have cb : kk rp sp D ρ0 h b ≤ 50688 := csO_le hrp hsp
          rw [a2, if_neg (nm1_ne (by omega))]
          by_cases q : kk rp sp D ρ0 h i < kk rp sp D ρ0 h b
          · rw [if_pos (nI_lt q (by omega)), ilet_s]
            exact take (fun c hc p => by have := (a5 c hc p).1; omega)
          · rw [if_neg (nI_nlt (by omega) (by omega)), ilet_s]
            refine ⟨(υ2, nI (kk rp sp D ρ0 h b), v5, nI (i + 1)), rfl, ⟨s2, Or.inr ⟨b, by omega, rfl, a3, a4, fun c hc p => ?_⟩⟩, rfl⟩
            rcases Nat.lt_or_ge c i with q2 | q2
            · exact a5 c q2 p
            · have : c = i := by omega
              subst this
              exact ⟨by omega, fun _ => by omega⟩
    rw [s1 42 12 rfl]
    rcases h12 with e | e
    · rw [if_pos e]
      exact j98 (fun s => absurd (e.symm.trans (hS.mpr s)) (by decide))
    · rw [if_neg (by rw [e]; decide)]
      have U : (∃ j, j < n ∧ j ≠ h ∧ υ1 44 j = nI i ∧ υ1 43 j ≠ υ1 43 h) ↔ UN mk (plR ρ0 h i) h := by
        rw [UN_pl hn (by omega) hz]
        refine ⟨fun ⟨j, a, b, c, d⟩ => ⟨j, a, b, ?_, ?_⟩, fun ⟨j, a, b, c, d⟩ => ⟨j, a, b, ?_, ?_⟩⟩
        · rw [← hρ j (by omega), ← s1 44 j rfl]; exact c
        · rw [← hmk j (by omega), ← hmk h (by omega), ← s1 43 j rfl, ← s1 43 h rfl]; exact d
        · rw [s1 44 j rfl, hρ j (by omega)]; exact c
        · rw [s1 43 j rfl, s1 43 h rfl, hmk j (by omega), hmk h (by omega)]; exact d
      rcases munl_y (N := N) (n := n) (h := h) (υ := υ1) (c := i) hN hn (by omega) (by rw [s1 42 1 rfl]; exact h1) with ⟨q, f⟩ | ⟨q, f⟩
      · rw [f, obd_s, if_neg (by decide), ilet_s, nI_1]
        exact skip υ1 s1 (fun p => p.1 (hS.mp e) (U.mp q))
      · rw [f, obd_s, if_pos rfl]
        exact j98 (fun _ g => q (U.mpr g))
end PM
