/-- one more host among the rooms -/
def plR (ρ0 : Nat → Int32) (h c j : Nat) : Int32 := if j = h then nI c else ρ0 j
def PP (mk : Nat → Int32) (S : Prop) (D B ρ0 : Nat → Int32) (h c : Nat) : Prop := (S → ¬ UN mk (plR ρ0 h c) h) ∧ ¬ BRD (plR ρ0 h c) D B
noncomputable def kk (rp sp : Nat) (D ρ0 : Nat → Int32) (h c : Nat) : Nat := csO rp sp (plR ρ0 h c) D
def PB (P : Nat → Prop) (k : Nat → Nat) (i : Nat) (v : Int32) : Prop := (v = (-1) ∧ ∀ c, c < i → ¬ P c) ∨ ∃ b, b < i ∧ v = nI b ∧ P b ∧ ∀ c, c < i → P c → k b ≤ k c ∧ (c < b → k b < k c)
theorem PB.uq {P : Nat → Prop} {k : Nat → Nat} {i : Nat} {v v' : Int32} (h : PB P k i v) (h' : PB P k i v') : v = v' := by
  rcases h with ⟨a, b⟩ | ⟨b, h1, h2, h3, h4⟩
  · rcases h' with ⟨c, _⟩ | ⟨c, g1, _, g3, _⟩
    · rw [a, c]
    · exact absurd g3 (b c g1)
  · rcases h' with ⟨_, d⟩ | ⟨c, g1, g2, g3, g4⟩
    · exact absurd h3 (d b h1)
    · have k1 := h4 c g1 g3
      have k2 := g4 b h1 h3
      rcases Nat.lt_trichotomy b c with q | q | q
      · have := k2.2 q; omega
      · rw [h2, g2, q]
      · have := k1.2 q; omega
theorem PB.ko {P : Nat → Prop} {k : Nat → Nat} {i : Nat} {v : Int32} (h : PB P k i v) (hi : ¬ P i) : PB P k (i + 1) v := by
  have key : ∀ c, c < i + 1 → P c → c < i := fun c hc p => by
    rcases Nat.lt_or_ge c i with q | q
    · exact q
    · have : c = i := by omega
      subst this; exact absurd p hi
  rcases h with ⟨a, b⟩ | ⟨b, h1, h2, h3, h4⟩
  · exact Or.inl ⟨a, fun c hc p => b c (key c hc p) p⟩
  · exact Or.inr ⟨b, by omega, h2, h3, fun c hc p => h4 c (key c hc p) p⟩
theorem plR_rv {ρ0 : Nat → Int32} {h c : Nat} (hv : RV ρ0) (hc : c < 8) : RV (plR ρ0 h c) := fun j hj => by
  unfold plR
  by_cases q : j = h
  · rw [if_pos q]; exact Or.inr ⟨c, hc, rfl⟩
  · rw [if_neg q]; exact hv j hj
theorem plR_z {ρ0 : Nat → Int32} {h c n : Nat} (hh : h < n) (hz : ∀ j, n ≤ j → j < 8 → ρ0 j = (-1)) : ∀ j, n ≤ j → j < 8 → plR ρ0 h c j = (-1) := fun j h1 h2 => by
  unfold plR
  rw [if_neg (by omega)]; exact hz j h1 h2
theorem csO_256 {rp sp : Nat} {ρ D : Nat → Int32} : csO rp sp ρ D ≤ 256 * rp + 256 * sp := Nat.add_le_add (Nat.mul_le_mul_right _ (nRU_le ρ D)) (Nat.mul_le_mul_right _ (nST_le ρ D))
section PL
variable {N n h R rp sp : Nat} {τ : Hp} {D B ρ0 mk : Nat → Int32} {S : Prop}
def SFI (τ : Hp) (D B : Nat → Int32) (rp sp h i : Nat) (s : Hp × Int32 × Int32) : Prop := (Sx cSk τ s.1 ∧ (∀ j, j < 8 → j ≠ h → s.1 23 j = τ 12 j) ∧ ∃ L, s.1 21 4 = nI L ∧ L ≤ 50689 ∧
  ((s.2.1 = (-1) ∧ L = 256 * rp + 256 * sp + 1 ∧ ∀ c, c < i → ¬ PP (τ 2) (τ 5 2 = 1) D B (τ 12) h c) ∨
   ∃ b, b < i ∧ s.2.1 = nI b ∧ PP (τ 2) (τ 5 2 = 1) D B (τ 12) h b ∧ L = kk rp sp D (τ 12) h b ∧ (∀ j, j < 8 → s.1 26 j = plR (τ 12) h b j) ∧ ∀ c, c < i → PP (τ 2) (τ 5 2 = 1) D B (τ 12) h c → kk rp sp D (τ 12) h b ≤ kk rp sp D (τ 12) h c ∧ (c < b → kk rp sp D (τ 12) h b < kk rp sp D (τ 12) h c))) ∧ s.2.2 = nI i
theorem seekFor_y (hN : 1000 ≤ N) (hn : n ≤ 8) (hh : h < n) (h1 : τ 1 3 = nI n) (h2 : τ 5 2 = 0 ∨ τ 5 2 = 1) (h3 : τ 5 3 = nI rp) (h4 : τ 5 4 = nI sp) (hrp : rp ≤ 99) (hsp : sp ≤ 99) (hQ : RB (τ 19) D) (hB : RB (τ 4) B) (hv : RV (τ 12)) (hrx : rmx (τ 12) 8 = R) (hR : R ≤ 8) (hz : ∀ j, n ≤ j → j < 8 → τ 12 j = (-1)) : ∃ υ v, f_Sk_seekRoomFor N 21 10 1 5 18 τ (nI h) = some (v, υ) ∧ Sx cSk τ υ ∧ PB (PP (τ 2) (τ 5 2 = 1) D B (τ 12) h) (kk rp sp D (τ 12) h) (min (R + 1) 8) v ∧ (∀ b, b < 8 → v = nI b → ∀ j, j < 8 → υ 26 j = plR (τ 12) h b j) := by
  have i8 : inb (nI h) 8 = true := inb_n (by omega) (by omega)
  unfold f_Sk_seekRoomFor f_La_costOf f_Ly_copyRooms
  rw [show τ 5 3 = nI rp from h3, show τ 5 4 = nI sp from h4, show (256 : Int32) = nI 256 from rfl, pk_mul, pk_mul, nI_add, obd_s, nI_1, ilet_s, ilet_s, obd_s]
  obtain ⟨τ3, e3⟩ : ∃ x : Hp, x = cpR (upR τ 21 (upd (τ 21) 4 (nI (256 * rp + 256 * sp + 1)))) 12 23 8 := ⟨_, rfl⟩
  rw [show cpR (upR τ 21 (upd (τ 21) 4 (nI (256 * rp + 256 * sp + 1)))) (10 + 2) (21 + 1 + 1) 8 = τ3 from e3.symm]
  have c23 : ∀ j, j < 8 → τ3 23 j = τ 12 j := fun j hj => by
    rw [e3]
    show va_cpy (τ 12) (τ 23) 0 0 8 j = _
    exact sb_cpy0 hj
  rw [roomCount_y (t := 21 + 1) hN (show RV (τ3 23) from fun j hj => by rw [c23 j hj]; exact hv j hj), obd_s, show rmx (τ3 (21 + 1 + 1)) 8 = R by show rmx (τ3 23) 8 = R; rw [rmx_cg 8 c23]; exact hrx]
  have s3 : Sx cSk τ τ3 := by
    rw [e3]
    exact (Sx.ud (k := 21) (i := 4) rfl).tr (Sx.u (k := 23) (fun j q => by cases q))
  refine lup (fun n' (s : Hp × Int32 × Int32) => f_Sk_seekRoomFor_L46 N 21 10 1 5 18 n' s.1 (nI h) (nI R) s.2.1 s.2.2) (SFI τ D B rp sp h) (fun z => ∃ υ v, z = some (v, υ) ∧ Sx cSk τ υ ∧ PB (PP (τ 2) (τ 5 2 = 1) D B (τ 12) h) (kk rp sp D (τ 12) h) (min (R + 1) 8) v ∧ (∀ b, b < 8 → v = nI b → ∀ j, j < 8 → υ 26 j = plR (τ 12) h b j)) (min (R + 1) 8) ?_ ?_ N 0 (τ3, -1, 0) (Nat.zero_le _) (by omega) ⟨⟨s3, fun j hj _ => c23 j hj, 256 * rp + 256 * sp + 1, (by rw [e3]; rfl), (by omega), Or.inl ⟨rfl, rfl, fun c hc => absurd hc (Nat.not_lt_zero c)⟩⟩, rfl⟩
  · rintro n' ⟨υ, v7, v8⟩ ⟨⟨g1, _, L, _, _, g4⟩, g2⟩
    dsimp only at g1 g2 g4 ⊢
    subst g2
    refine ⟨υ, v7, ?_, g1, ?_, fun b hb e => ?_⟩
    · show f_Sk_seekRoomFor_L46b N 21 10 1 5 18 _ _ _ _ _ _ = _
      unfold f_Sk_seekRoomFor_L46b
      by_cases q : R < min (R + 1) 8
      · rw [if_pos (nI_lt q (by omega))]
      · rw [if_neg (nI_nlt (by omega) (by omega)), if_pos (show (8 : Int32) ≤ nI (min (R + 1) 8) from nI_le (a := 8) (by omega) (by omega))]
    · rcases g4 with ⟨a, _, b⟩ | ⟨b, a1, a2, a3, _, _, a6⟩
      · exact Or.inl ⟨a, b⟩
      · exact Or.inr ⟨b, a1, a2, a3, a6⟩
    · rcases g4 with ⟨a, _, _⟩ | ⟨b', a1, a2, _, _, a5, _⟩
      · exact absurd (a.symm.trans e) (nm1_ne' (by omega))
      · have := (nI_eq (by omega) (by omega)).mp (a2.symm.trans e)
        subst this; exact a5
  · rintro n' i ⟨υ, v7, v8⟩ hi ⟨⟨g1, g3, L, gL, gL2, g4⟩, g2⟩
    dsimp only at g1 g2 g3 gL g4 ⊢
    subst g2
    refine Or.inr ?_
    show ∃ s', f_Sk_seekRoomFor_L46b N 21 10 1 5 18 (f_Sk_seekRoomFor_L46 N 21 10 1 5 18 n') υ (nI h) (nI R) v7 (nI i) = _ ∧ _
    unfold f_Sk_seekRoomFor_L46b
    rw [if_neg (nI_nlt (show i ≤ R by omega) (by omega)), if_neg (show ¬ (8 : Int32) ≤ nI i from nI_ge (b := 8) (by omega) (by omega)), ogd_t _ i8, nI_clamp (n := h) (by omega), ilet_s]
    obtain ⟨τ1, e1⟩ : ∃ x : Hp, x = upR υ 23 (upd (υ 23) h (nI i)) := ⟨_, rfl⟩
    rw [show upR υ (21 + 2) (upd (υ (21 + 2)) h (nI i)) = τ1 from e1.symm]
    have r23 : ∀ j, j < 8 → τ1 23 j = plR (τ 12) h i j := fun j hj => by
      rw [e1, upR_eq, upd_at]
      unfold plR
      by_cases q : j = h
      · rw [if_pos q, if_pos q]
      · rw [if_neg q, if_neg q]; exact g3 j hj q
    have s1 : Sx cSk τ τ1 := g1.tr (by rw [e1]; exact Sx.u (fun j q => by cases q))
    have r21 : τ1 21 = υ 21 := by rw [e1]; rfl
    have r26 : τ1 26 = υ 26 := by rw [e1]; rfl
    obtain ⟨υ', c1, c2⟩ := cheap_y (N := N) (h := h) (k := n) (L := L) (rp := rp) (sp := sp) (υ := τ1) (D := D) (B := B) hN (by omega) hn (by rw [s1 5 2 rfl]; exact h2) (by rw [s1 5 3 rfl]; exact h3) (by rw [s1 5 4 rfl]; exact h4) hrp hsp (by rw [r21]; exact gL) (by omega) (fun j hj => by rw [r23 j hj]; exact plR_rv hv (by omega) j hj) (fun j a b => by rw [r23 j b]; exact plR_z hh hz j a b) (by rw [s1.row 19 (fun _ => rfl)]; exact hQ) (by rw [s1.row 4 (fun _ => rfl)]; exact hB)
    rw [s1 5 2 rfl, s1.row 2 (fun _ => rfl), UN.cg (by omega) r23, BRD.cg r23 (fun _ _ => rfl) (fun _ _ => rfl), csO_cg r23 (fun _ _ => rfl)] at c2
    have s2 : Sx cSk τ υ' := s1.tr (cSk_Ch c1)
    have cs : kk rp sp D (τ 12) h i ≤ 50688 := csO_le hrp hsp
    have cs2 : kk rp sp D (τ 12) h i ≤ 256 * rp + 256 * sp := csO_256
    rw [show τ1 1 3 = nI n by rw [s1 1 3 rfl]; exact h1]
    rcases c2 with ⟨⟨p1, p2, p3⟩, c3, c4⟩ | ⟨p, c3⟩
    · rw [c3, obd_s, if_neg (by decide)]
      unfold f_Sk_keepTrial
      rw [ilet_s, ilet_s, obd_s, ilet_s, nI_1]
      refine ⟨(upR (cpR υ' 23 26 8) 21 (upd ((cpR υ' 23 26 8) 21) 4 ((cpR υ' 23 26 8) 21 3)), nI i, nI (i + 1)), rfl, ⟨(s2.tr (Sx.u (k := 26) (fun j q => by cases q))).tr (Sx.ud (τ := cpR υ' 23 26 8) (k := 21) (i := 4) rfl), fun j hj q => ?_, kk rp sp D (τ 12) h i, ?_, by omega, Or.inr ⟨i, by omega, rfl, ⟨p1, p2⟩, rfl, fun j hj => ?_, fun c hc hp => ?_⟩⟩, rfl⟩
      · show υ' 23 j = τ 12 j
        rw [c1 23 j rfl, r23 j hj]
        unfold plR
        rw [if_neg q]
      · show υ' 21 3 = _
        exact c4
      · show va_cpy (υ' 23) (υ' 26) 0 0 8 j = _
        rw [sb_cpy0 hj, c1 23 j rfl]; exact r23 j hj
      · rcases Nat.lt_or_ge c i with q | q
        · rcases g4 with ⟨_, _, b⟩ | ⟨b, _, _, _, a4, _, a6⟩
          · exact absurd hp (b c q)
          · have := (a6 c q hp).1
            have p3' : kk rp sp D (τ 12) h i < L := p3
            exact ⟨by omega, fun _ => by omega⟩
        · have : c = i := by omega
          subst this
          exact ⟨Nat.le_refl _, fun q => absurd q (Nat.lt_irrefl _)⟩
    · rw [c3, obd_s, if_pos rfl, ilet_s, nI_1]
      refine ⟨(υ', v7, nI (i + 1)), rfl, ⟨s2, fun j hj q => ?_, L, ?_, gL2, ?_⟩, rfl⟩
      · show υ' 23 j = τ 12 j
        rw [c1 23 j rfl, r23 j hj]
        unfold plR
        rw [if_neg q]
      · show υ' 21 4 = _
        rw [c1 21 4 rfl, r21]; exact gL
      · have p' : PP (τ 2) (τ 5 2 = 1) D B (τ 12) h i → L ≤ kk rp sp D (τ 12) h i := fun q => Nat.le_of_not_lt (fun e => p ⟨q.1, q.2, e⟩)
        rcases g4 with ⟨a1, a2, a3⟩ | ⟨b, a1, a2, a3, a4, a5, a6⟩
        · refine Or.inl ⟨a1, a2, fun c hc hp => ?_⟩
          rcases Nat.lt_or_ge c i with q | q
          · exact a3 c q hp
          · have : c = i := by omega
            subst this
            have := p' hp
            omega
        · refine Or.inr ⟨b, by omega, a2, a3, a4, fun j hj => ?_, fun c hc hp => ?_⟩
          · show υ' 26 j = _
            rw [c1 26 j rfl, r26]; exact a5 j hj
          · rcases Nat.lt_or_ge c i with q | q
            · exact a6 c q hp
            · have : c = i := by omega
              subst this
              have := p' hp
              exact ⟨by omega, fun _ => by omega⟩
theorem puts_y {υ : Hp} {x : Int32} (hN : 1000 ≤ N) (hh : h < 8) : ∃ ρ : Nat → Int32, f_Mo_putsIn N 42 υ (nI h) x = some (0, upR υ 54 ρ) ∧ ∀ j, j < 8 → ρ j = if j = h then x else υ 44 j := by
  unfold f_Mo_putsIn
  refine (lup (fun n' (s : (Nat → Int32) × Int32) => f_Mo_putsIn_L2 N 42 n' (upR υ 54 s.1) (nI h) x s.2) (fun i s => (∀ j, j < i → s.1 j = if j = h then x else υ 44 j) ∧ s.2 = nI i) (fun z => ∃ ρ : Nat → Int32, z = some (0, upR υ 54 ρ) ∧ ∀ j, j < 8 → ρ j = if j = h then x else υ 44 j) 8 ?_ ?_ N 0 (υ 54, 0) (Nat.zero_le _) (by omega) ⟨fun j hj => absurd hj (Nat.not_lt_zero j), rfl⟩ |> fun h => by rw [upR_id] at h; exact h)
  · rintro n' ⟨ρ, s2⟩ ⟨g1, g2⟩
    dsimp only at g1 g2 ⊢
    subst g2
    refine ⟨ρ, ?_, g1⟩
    show f_Mo_putsIn_L2b N 42 _ _ _ _ _ = _
    unfold f_Mo_putsIn_L2b
    rw [if_pos (show (8 : Int32) ≤ nI 8 from by decide)]
  · rintro n' i ⟨ρ, s2⟩ hi ⟨g1, g2⟩
    dsimp only at g1 g2 ⊢
    subst g2
    refine Or.inr ⟨(upd ρ i (if i = h then x else υ 44 i), nI (i + 1)), ?_, fun j hj => ?_, rfl⟩
    · show f_Mo_putsIn_L2b N 42 _ _ _ _ _ = _
      unfold f_Mo_putsIn_L2b
      rw [if_neg (show ¬ (8 : Int32) ≤ nI i from nI_ge (b := 8) hi (by omega))]
      by_cases q : i = h
      · rw [if_pos (by rw [q]), ogd_t _ (inb_n hi (by omega)), ilet_s, ilet_s, nI_1, nI_clamp (n := i) (by omega), show (upR υ 54 ρ) (42 + 12) = ρ from upR_eq υ 54 ρ, upR_2, if_pos q]
      · rw [if_neg (fun e => q ((nI_eq (by omega) (by omega)).mp e)), ogd_t _ (inb_n hi (by omega)), ogd_t _ (inb_n hi (by omega)), ilet_s, ilet_s, nI_1, nI_clamp (n := i) (by omega), show (upR υ 54 ρ) (42 + 12) = ρ from upR_eq υ 54 ρ, upR_2, if_neg q]
        rfl
    · show upd ρ i _ j = _
      rw [upd_at]
      by_cases q : j = i
      · rw [if_pos q, q]
      · rw [if_neg q]; exact g1 j (by omega)
theorem munl_y {υ : Hp} {c : Nat} (hN : 1000 ≤ N) (hn : n ≤ 8) (hh : h < 8) (h1 : υ 42 1 = nI n) : ((∃ j, j < n ∧ j ≠ h ∧ υ 44 j = nI c ∧ υ 43 j ≠ υ 43 h) ∧ f_Mo_isUnlike N 42 υ (nI h) (nI c) = some (1, υ)) ∨ ((¬ ∃ j, j < n ∧ j ≠ h ∧ υ 44 j = nI c ∧ υ 43 j ≠ υ 43 h) ∧ f_Mo_isUnlike N 42 υ (nI h) (nI c) = some (0, υ)) := by
  unfold f_Mo_isUnlike
  refine lup (fun n' (s : Int32) => f_Mo_isUnlike_L2 N 42 n' υ (nI h) (nI c) s) (fun i s => (∀ j, j < i → ¬ (j ≠ h ∧ υ 44 j = nI c ∧ υ 43 j ≠ υ 43 h)) ∧ s = nI i) (fun z => ((∃ j, j < n ∧ j ≠ h ∧ υ 44 j = nI c ∧ υ 43 j ≠ υ 43 h) ∧ z = some (1, υ)) ∨ ((¬ ∃ j, j < n ∧ j ≠ h ∧ υ 44 j = nI c ∧ υ 43 j ≠ υ 43 h) ∧ z = some (0, υ))) n ?_ ?_ N 0 0 (Nat.zero_le _) (by omega) ⟨fun j hj => absurd hj (Nat.not_lt_zero j), rfl⟩
  · rintro n' s ⟨g1, g2⟩
    subst g2
    refine Or.inr ⟨fun ⟨j, a, b⟩ => g1 j a b, ?_⟩
    show f_Mo_isUnlike_L2b N 42 _ _ _ _ _ = _
    unfold f_Mo_isUnlike_L2b
    rw [h1, if_pos (nI_le (Nat.le_refl _) (by omega))]
  · rintro n' i s hi ⟨g1, g2⟩
    subst g2
    have st : ¬ (i ≠ h ∧ υ 44 i = nI c ∧ υ 43 i ≠ υ 43 h) → ∃ s', f_Mo_isUnlike_L2 N 42 n' υ (nI h) (nI c) (nI (i + 1)) = f_Mo_isUnlike_L2 N 42 n' υ (nI h) (nI c) s' ∧ (∀ j, j < i + 1 → ¬ (j ≠ h ∧ υ 44 j = nI c ∧ υ 43 j ≠ υ 43 h)) ∧ s' = nI (i + 1) := fun e => ⟨_, rfl, fun j hj => by
      by_cases q : j = i
      · subst q; exact e
      · exact g1 j (by omega), rfl⟩
    show (_ ∧ f_Mo_isUnlike_L2b N 42 _ υ (nI h) (nI c) (nI i) = _ ∨ _ ∧ f_Mo_isUnlike_L2b N 42 _ υ (nI h) (nI c) (nI i) = _) ∨ ∃ s', f_Mo_isUnlike_L2b N 42 _ υ (nI h) (nI c) (nI i) = _ ∧ _
    unfold f_Mo_isUnlike_L2b
    rw [h1, if_neg (nI_ge hi (by omega))]
    by_cases q0 : i = h
    · rw [if_pos (by rw [q0]), ilet_s, nI_1]
      exact Or.inr (st (fun e => e.1 q0))
    · rw [if_neg (fun e => q0 ((nI_eq (by omega) (by omega)).mp e)), ogd_t _ (inb_n (show i < 8 by omega) (by omega)), nI_clamp (n := i) (by omega)]
      by_cases q1 : υ 44 i = nI c
      · rw [if_pos (show υ (42 + 2) i = nI c from q1), ogd_t _ (inb_n (show i < 8 by omega) (by omega)), ogd_t _ (inb_n hh (by omega)), nI_clamp (n := h) (by omega)]
        by_cases q2 : υ 43 i = υ 43 h
        · rw [if_pos (show υ (42 + 1) i = υ (42 + 1) h from q2), ilet_s, nI_1]
          exact Or.inr (st (fun e => e.2.2 q2))
        · rw [if_neg (show ¬ υ (42 + 1) i = υ (42 + 1) h from q2)]
          exact Or.inl (Or.inl ⟨⟨i, hi, q0, q1, q2⟩, rfl⟩)
      · rw [if_neg (show ¬ υ (42 + 2) i = nI c from q1), ilet_s, nI_1]
        exact Or.inr (st (fun e => q1 e.2.1))
end PL
