theorem hcm_le (ro : Nat → Int32) (m : Nat) : ∀ k, hcm ro m k ≤ k
  | 0 => Nat.le_refl _
  | k + 1 => by
    have := hcm_le ro m k
    unfold hcm at this ⊢
    rw [cnt]
    by_cases h : hcb ro m k = true
    · rw [if_pos h]; omega
    · rw [if_neg h]; omega
theorem szs_le (ro : Nat → Int32) (a : Nat) : ∀ k, szs ro k a ≤ k
  | 0 => Nat.le_refl _
  | k + 1 => by
    have := szs_le ro a k
    unfold szs at this ⊢
    rw [cnt]
    by_cases h : (ro k == nI a) = true
    · rw [if_pos h]; omega
    · rw [if_neg h]; omega
theorem szs_s (ro : Nat → Int32) (a k : Nat) : szs ro (k + 1) a = szs ro k a + if ro k = nI a then 1 else 0 := by
  unfold szs
  rw [cnt]
  congr 1
  by_cases q : ro k = nI a
  · rw [if_pos q, if_pos (by rw [q]; exact beq_self_eq_true _)]
  · rw [if_neg q, if_neg (fun e => q (eq_of_beq e))]
def mxv (v : Nat → Nat) : Nat → Nat
  | 0 => 0
  | R + 1 => max (mxv v R) (v R)
theorem mxv_lt {v : Nat → Nat} {B : Nat} (hB : 0 < B) : ∀ R, (∀ x, x < R → v x < B) → mxv v R < B
  | 0, _ => hB
  | R + 1, h => by
    have h1 := mxv_lt hB R (fun x hx => h x (by omega))
    have h2 := h R (by omega)
    rw [mxv]; omega
def cs27 (k j : Nat) : Bool := k == 28 || k == 29 || (k == 27 && j == 2)
theorem begin_27 {N n R : Nat} {τ : Hp} (hN : 1000 ≤ N) (hn : n ≤ 8) (h : IR n R (τ 12) (τ 44)) : ∃ τ', f_Sp_begin N 27 11 τ = some (0, τ') ∧ Sx cs27 τ τ' ∧ τ' 27 2 = nI R ∧ (∀ a, a < 8 → τ' 28 a = nI (szs (τ 12) 8 a)) ∧ ∀ x, x < 8 → τ' 29 x = nI (2 ^ x) := by
  have hR := h.1
  unfold f_Sp_begin
  rw [roomCount_y (t := 11) hN h.rv, obd_s, ilet_s, show rmx (τ (11 + 1)) 8 = R from h.rmx hn]
  refine lup (fun n (s : Hp × Int32) => f_Sp_begin_L10 N 27 11 n s.1 s.2) (fun i s => (Sx cs27 τ s.1 ∧ s.1 27 2 = nI R ∧ ∀ x, x < i → s.1 28 x = 0 ∧ s.1 29 x = nI (2 ^ x)) ∧ s.2 = nI i) (fun z => ∃ τ', z = some (0, τ') ∧ Sx cs27 τ τ' ∧ τ' 27 2 = nI R ∧ (∀ a, a < 8 → τ' 28 a = nI (szs (τ 12) 8 a)) ∧ ∀ x, x < 8 → τ' 29 x = nI (2 ^ x)) 8 ?_ ?_ N 0 (upR τ 27 (upd (τ 27) 2 (nI R)), 0) (Nat.zero_le _) (by omega) ⟨⟨Sx.ud rfl, rfl, fun x hx => absurd hx (Nat.not_lt_zero x)⟩, rfl⟩
  · rintro n ⟨υ, s2⟩ ⟨⟨h1, h2, h3⟩, h4⟩
    dsimp only at h1 h2 h3 h4 ⊢
    subst h4
    show ∃ τ', f_Sp_begin_L10b N 27 11 _ υ _ = some (0, τ') ∧ _
    unfold f_Sp_begin_L10b
    rw [if_pos (show (8 : Int32) ≤ nI 8 from by decide)]
    refine lup (fun n (s : Hp × Int32) => f_Sp_begin_L40 N 27 11 n s.1 s.2) (fun i s => (Sx cs27 τ s.1 ∧ s.1 27 2 = nI R ∧ (∀ a, a < 8 → s.1 28 a = nI (szs (τ 12) i a)) ∧ ∀ x, x < 8 → s.1 29 x = nI (2 ^ x)) ∧ s.2 = nI i) (fun z => ∃ τ', z = some (0, τ') ∧ Sx cs27 τ τ' ∧ τ' 27 2 = nI R ∧ (∀ a, a < 8 → τ' 28 a = nI (szs (τ 12) 8 a)) ∧ ∀ x, x < 8 → τ' 29 x = nI (2 ^ x)) 8 ?_ ?_ N 0 (υ, 0) (Nat.zero_le _) (by omega) ⟨⟨h1, h2, fun a ha => (h3 a ha).1, fun x hx => (h3 x hx).2⟩, rfl⟩
    · rintro n ⟨ω, s2⟩ ⟨⟨g1, g2, g3, g4⟩, g5⟩
      dsimp only at g1 g2 g3 g4 g5 ⊢
      subst g5
      refine ⟨ω, ?_, g1, g2, g3, g4⟩
      show f_Sp_begin_L40b N 27 11 _ ω _ = _
      unfold f_Sp_begin_L40b
      rw [if_pos (show (8 : Int32) ≤ nI 8 from by decide)]
    · rintro n i ⟨ω, s2⟩ hi ⟨⟨g1, g2, g3, g4⟩, g5⟩
      dsimp only at g1 g2 g3 g4 g5 ⊢
      subst g5
      refine Or.inr ?_
      show ∃ s' : Hp × Int32, f_Sp_begin_L40b N 27 11 _ ω _ = _ ∧ _
      unfold f_Sp_begin_L40b
      rw [if_neg (show ¬ (8 : Int32) ≤ nI i from nI_ge (b := 8) hi (by omega)), ogd_t _ (inb_n hi (by omega)), nI_clamp (by omega)]
      show ∃ s' : Hp × Int32, (if ω 12 i = (-1) then _ else ogd (inb (nI i) 8) (ogd (inb (ω 12 i) 8) (ogd (inb (ω 12 i) 8) (ilet (upR ω 28 (upd (ω 28) (ω 12 i).toNatClampNeg (ω 28 (ω 12 i).toNatClampNeg + 1))) _)))) = _ ∧ _
      rw [g1 12 i rfl]
      rcases h.rv i hi with q | ⟨b, hb, q⟩
      · rw [if_pos q, ilet_s]
        refine ⟨(ω, nI (i + 1)), by rw [nI_succ], ⟨g1, g2, fun a ha => ?_, g4⟩, rfl⟩
        show ω 28 a = _
        rw [g3 a ha, szs_s, q, if_neg (nm1_ne' (by omega))]; rfl
      · rw [q, if_neg (nm1_ne (by omega)), ogd_t _ (inb_n hi (by omega)), ogd_t _ (inb_n hb (by omega)), ogd_t _ (inb_n hb (by omega)), ilet_s, ilet_s, nI_clamp (by omega)]
        refine ⟨(upR ω 28 (upd (ω 28) b (ω 28 b + 1)), nI (i + 1)), by rw [nI_succ], ⟨g1.tr (Sx.ud rfl), g2, fun a ha => ?_, g4⟩, rfl⟩
        show upd (ω 28) b (ω 28 b + 1) a = _
        rw [upd_at, szs_s, q]
        by_cases q2 : a = b
        · rw [if_pos q2, q2, g3 b hb, if_pos rfl, nI_1]
        · rw [if_neg q2, g3 a ha, if_neg (fun e => q2 ((nI_eq (by omega) (by omega)).mp e).symm)]; rfl
  · rintro n i ⟨υ, s2⟩ hi ⟨⟨h1, h2, h3⟩, h4⟩
    dsimp only at h1 h2 h3 h4 ⊢
    subst h4
    refine Or.inr ?_
    show ∃ s' : Hp × Int32, f_Sp_begin_L10b N 27 11 _ υ _ = _ ∧ _
    unfold f_Sp_begin_L10b
    rw [if_neg (show ¬ (8 : Int32) ≤ nI i from nI_ge (b := 8) hi (by omega)), ogd_t _ (inb_n hi (by omega)), ilet_s, ogd_t _ (inb_n hi (by omega)), ilet_s, ilet_s, nI_clamp (by omega), sh8 i hi]
    refine ⟨(upR (upR υ 28 (upd (υ 28) i 0)) 29 (upd (υ 29) i (nI (2 ^ i))), nI (i + 1)), by rw [nI_succ]; rfl, ⟨(h1.tr (Sx.ud rfl)).tr (Sx.ud rfl), h2, fun x hx => ?_⟩, rfl⟩
    show upd (υ 28) i 0 x = 0 ∧ upd (υ 29) i (nI (2 ^ i)) x = nI (2 ^ x)
    rw [upd_at, upd_at]
    by_cases q : x = i
    · rw [if_pos q, if_pos q, q]; exact ⟨rfl, rfl⟩
    · rw [if_neg q, if_neg q]; exact h3 x (by omega)
theorem addRule_27 {N r m : Nat} {τ : Hp} (hr : r < 256) (hm : m < 256) (e : τ 29 (r / 32) = nI m) : f_Sp_addRule N 27 τ (nI r) = some (0, upR τ 29 (upd (τ 29) (r / 32) (nI (m ||| 2 ^ (r / 4 % 8))))) := by
  unfold f_Sp_addRule
  rw [firstOf_y hr, obd_s, ogd_t _ (inb_n (by omega) (by omega)), secondOf_y hr, obd_s, ogd_t _ (inb_n (by omega) (by omega)), ilet_s, nI_clamp (by omega)]
  show some ((0 : Int32), upR τ 29 (upd (τ 29) (r / 32) (τ 29 (r / 32) ||| (1 <<< (nI (r / 4 % 8) &&& 31))))) = _
  rw [e, or8 m hm _ (by omega)]
theorem chain_27 {N R : Nat} {τ : Hp} {M : Nat → Nat} (hN : 1000 ≤ N) (hR : R ≤ 8) (h2 : τ 27 2 = nI R) (hM : ∀ x, x < 8 → τ 29 x = nI (M x) ∧ M x < 256) : ∃ ρ : Nat → Int32, f_Sp_chain N 27 τ = some (0, upR τ 29 ρ) ∧ ∀ x, x < 8 → ρ x = nI (chM R M R x) := by
  unfold f_Sp_chain
  have hlt := ch_lt (R := R) (fun x hx => (hM x hx).2) hR
  refine lup (fun n (s : (Nat → Int32) × Int32) => f_Sp_chain_L2 N 27 n (upR τ 29 s.1) s.2) (fun k s => (∀ x, x < 8 → s.1 x = nI (chM R M k x)) ∧ s.2 = nI k) (fun z => ∃ ρ : Nat → Int32, z = some (0, upR τ 29 ρ) ∧ ∀ x, x < 8 → ρ x = nI (chM R M R x)) R ?_ ?_ N 0 (τ 29, 0) (Nat.zero_le _) (by omega) ⟨fun x hx => (hM x hx).1, rfl⟩ |> fun q => by rw [upR_id] at q; exact q
  · rintro n ⟨ρ, s2⟩ ⟨h3, h4⟩
    dsimp only at h3 h4 ⊢
    subst h4
    refine ⟨ρ, ?_, h3⟩
    show f_Sp_chain_L2b N 27 _ _ _ = _
    unfold f_Sp_chain_L2b
    show (if τ 27 2 ≤ nI R then _ else _) = _
    rw [h2, if_pos (nI_le (Nat.le_refl _) (by omega))]
  · rintro n k ⟨ρ, s2⟩ hk ⟨h3, h4⟩
    dsimp only at h3 h4 ⊢
    subst h4
    refine Or.inr ?_
    show ∃ s' : (Nat → Int32) × Int32, f_Sp_chain_L2b N 27 _ (upR τ 29 ρ) _ = _ ∧ _
    unfold f_Sp_chain_L2b
    show ∃ s' : (Nat → Int32) × Int32, (if τ 27 2 ≤ nI k then _ else _) = _ ∧ _
    rw [h2, if_neg (nI_ge hk (by omega))]
    refine lup (fun n' (s : (Nat → Int32) × Int32) => f_Sp_chain_L12 N 27 (f_Sp_chain_L2 N 27 n) n' (upR τ 29 s.1) (nI k) s.2) (fun i s => (∀ x, x < 8 → s.1 x = nI (if x < i then chM R M (k + 1) x else chM R M k x)) ∧ s.2 = nI i) (fun z => ∃ s' : (Nat → Int32) × Int32, z = f_Sp_chain_L2 N 27 n (upR τ 29 s'.1) s'.2 ∧ (∀ x, x < 8 → s'.1 x = nI (chM R M (k + 1) x)) ∧ s'.2 = nI (k + 1)) R ?_ ?_ N 0 (ρ, 0) (Nat.zero_le _) (by omega) ⟨fun x hx => by rw [if_neg (Nat.not_lt_zero x)]; exact h3 x hx, rfl⟩
    · rintro n' ⟨ρ, s2⟩ ⟨g3, g4⟩
      dsimp only at g3 g4 ⊢
      subst g4
      refine ⟨(ρ, nI (k + 1)), ?_, fun x hx => ?_, rfl⟩
      · show f_Sp_chain_L12b N 27 _ _ (upR τ 29 ρ) _ _ = _
        unfold f_Sp_chain_L12b
        show (if τ 27 2 ≤ nI R then _ else _) = _
        rw [h2, if_pos (nI_le (Nat.le_refl _) (by omega)), ilet_s, nI_1]
      · show ρ x = _
        rw [g3 x hx]
        by_cases q : x < R
        · rw [if_pos q]
        · rw [if_neg q]
          show _ = nI (if x < R ∧ (chM R M k x).testBit k = true then chM R M k x ||| chM R M k k else chM R M k x)
          rw [if_neg (fun e => q e.1)]
    · rintro n' i ⟨ρ, s2⟩ hi ⟨g3, g4⟩
      dsimp only at g3 g4 ⊢
      subst g4
      refine Or.inr ?_
      show ∃ s' : (Nat → Int32) × Int32, f_Sp_chain_L12b N 27 _ _ (upR τ 29 ρ) _ _ = _ ∧ _
      unfold f_Sp_chain_L12b
      show ∃ s' : (Nat → Int32) × Int32, (if τ 27 2 ≤ nI i then _ else ogd (inb (nI i) 8) (if ((ρ (nI i).toNatClampNeg >>> (nI k &&& 31)) &&& 1) = 1 then ogd (inb (nI i) 8) (ogd (inb (nI k) 8) (ogd (inb (nI i) 8) (ilet (upR (upR τ 29 ρ) 29 (upd ρ (nI i).toNatClampNeg (ρ (nI i).toNatClampNeg ||| ρ (nI k).toNatClampNeg))) _))) else _)) = _ ∧ _
      have ei : ρ i = nI (chM R M k i) := by rw [g3 i (by omega), if_neg (by omega)]
      have ek : ∃ mk, mk < 256 ∧ ρ k = nI mk ∧ chM R M k i ||| mk = chM R M k i ||| chM R M k k := by
        by_cases q : k < i
        · refine ⟨chM R M (k + 1) k, hlt (k + 1) (by omega) k (by omega), by rw [g3 k (by omega), if_pos q], ?_⟩
          apply Nat.eq_of_testBit_eq; intro j
          rw [Nat.testBit_or, Nat.testBit_or]
          congr 1
          cases h5 : (chM R M (k + 1) k).testBit j
          · cases h6 : (chM R M k k).testBit j
            · rfl
            · rw [ch_bit.mpr (Or.inl h6)] at h5; cases h5
          · have := ch_bit.mp h5
            have h6 : (chM R M k k).testBit j = true := this.elim id (fun q => q.2.2)
            rw [h6]
        · exact ⟨chM R M k k, hlt k (by omega) k (by omega), by rw [g3 k (by omega), if_neg q], rfl⟩
      obtain ⟨mk, hmk, ek1, ek3⟩ := ek
      rw [h2, if_neg (nI_ge hi (by omega)), ogd_t _ (inb_n (i := i) (by omega) (by omega)), nI_clamp (by omega), nI_clamp (by omega), ei]
      by_cases q : (chM R M k i).testBit k = true
      · rw [if_pos ((bt8 _ (hlt k (by omega) i (by omega)) k (by omega)).mpr q), ogd_t _ (inb_n (i := i) (by omega) (by omega)), ogd_t _ (inb_n (i := k) (by omega) (by omega)), ogd_t _ (inb_n (i := i) (by omega) (by omega)), ilet_s, ilet_s, upR_2, ek1, or_nI (hlt k (by omega) i (by omega)) hmk, ek3]
        refine ⟨(upd ρ i (nI (chM R M k i ||| chM R M k k)), nI (i + 1)), by rw [nI_succ], fun x hx => ?_, rfl⟩
        show upd ρ i _ x = _
        rw [upd_at]
        by_cases q2 : x = i
        · rw [if_pos q2, q2, if_pos (by omega)]
          show _ = nI (if i < R ∧ (chM R M k i).testBit k = true then chM R M k i ||| chM R M k k else chM R M k i)
          rw [if_pos ⟨hi, q⟩]
        · rw [if_neg q2, g3 x hx]
          by_cases q3 : x < i
          · rw [if_pos q3, if_pos (by omega)]
          · rw [if_neg q3, if_neg (by omega)]
      · rw [if_neg (fun e => q ((bt8 _ (hlt k (by omega) i (by omega)) k (by omega)).mp e)), ilet_s]
        refine ⟨(ρ, nI (i + 1)), by rw [nI_succ], fun x hx => ?_, rfl⟩
        show ρ x = _
        rw [g3 x hx]
        by_cases q2 : x = i
        · rw [q2, if_neg (by omega), if_pos (by omega)]
          show _ = nI (if i < R ∧ (chM R M k i).testBit k = true then chM R M k i ||| chM R M k k else chM R M k i)
          rw [if_neg (fun e => q e.2)]
        · by_cases q3 : x < i
          · rw [if_pos q3, if_pos (by omega)]
          · rw [if_neg q3, if_neg (by omega)]
theorem others_27 {N R x m : Nat} {τ : Hp} {sz : Nat → Nat} (hN : 1000 ≤ N) (hR : R ≤ 8) (hx : x < 8) (h2 : τ 27 2 = nI R) (hm : m < 256) (e : τ 29 x = nI m) (hs : ∀ a, a < 8 → τ 28 a = nI (sz a)) : f_Sp_othersFrom N 27 τ (nI x) = some (nI (ss m sz R) - 1, τ) := by
  unfold f_Sp_othersFrom
  refine lup (fun n (s : Int32 × Int32) => f_Sp_othersFrom_L4 N 27 n τ (nI x) s.1 s.2) (fun i s => s.1 = nI (ss m sz i) ∧ s.2 = nI i) (fun z => z = some (nI (ss m sz R) - 1, τ)) R ?_ ?_ N 0 (0, 0) (Nat.zero_le _) (by omega) ⟨rfl, rfl⟩
  · rintro n ⟨s1, s2⟩ ⟨h3, h4⟩
    dsimp only at h3 h4 ⊢
    subst h3; subst h4
    show f_Sp_othersFrom_L4b N 27 _ τ _ _ _ = _
    unfold f_Sp_othersFrom_L4b
    rw [h2, if_pos (nI_le (Nat.le_refl _) (by omega))]
  · rintro n a ⟨s1, s2⟩ ha ⟨h3, h4⟩
    dsimp only at h3 h4 ⊢
    subst h3; subst h4
    refine Or.inr ?_
    show ∃ s' : Int32 × Int32, f_Sp_othersFrom_L4b N 27 _ τ _ _ _ = _ ∧ _
    unfold f_Sp_othersFrom_L4b
    rw [h2, if_neg (nI_ge ha (by omega)), ogd_t _ (inb_n hx (by omega)), nI_clamp (by omega)]
    show ∃ s' : Int32 × Int32, (if ((τ 29 x >>> (nI a &&& 31)) &&& 1) = 1 then ogd (inb (nI a) 8) (ilet (_ + τ 28 (nI a).toNatClampNeg) _) else _) = _ ∧ _
    rw [e]
    by_cases q : m.testBit a = true
    · rw [if_pos ((bt8 m hm a (by omega)).mpr q), ogd_t _ (inb_n (i := a) (by omega) (by omega)), ilet_s, ilet_s, nI_clamp (by omega), hs a (by omega), nI_add]
      exact ⟨(nI (ss m sz a + sz a), nI (a + 1)), by rw [nI_succ], by rw [ss, if_pos q], rfl⟩
    · rw [if_neg (fun e => q ((bt8 m hm a (by omega)).mp e)), ilet_s]
      exact ⟨(nI (ss m sz a), nI (a + 1)), by rw [nI_succ], by rw [ss, if_neg q]; rfl, rfl⟩
theorem widest_27 {N R : Nat} {τ : Hp} {v : Nat → Nat} (hN : 1000 ≤ N) (hR : R ≤ 8) (h2 : τ 27 2 = nI R) (hv : ∀ x, x < R → v x < 9 ∧ f_Sp_othersFrom N 27 τ (nI x) = some (nI (v x) - 1, τ)) : f_Sp_widest N 27 τ = some (nI (mxv v R) - 1, τ) := by
  unfold f_Sp_widest
  refine lup (fun n (s : Int32 × Int32) => f_Sp_widest_L4 N 27 n τ s.1 s.2) (fun i s => i ≤ R ∧ s.1 = nI (mxv v i) - 1 ∧ s.2 = nI i) (fun z => z = some (nI (mxv v R) - 1, τ)) R ?_ ?_ N 0 ((-1), 0) (Nat.zero_le _) (by omega) ⟨Nat.zero_le _, rfl, rfl⟩
  · rintro n ⟨s1, s2⟩ ⟨-, h3, h4⟩
    dsimp only at h3 h4 ⊢
    subst h3; subst h4
    show f_Sp_widest_L4b N 27 _ τ _ _ = _
    unfold f_Sp_widest_L4b
    rw [h2, if_pos (nI_le (Nat.le_refl _) (by omega))]
  · rintro n a ⟨s1, s2⟩ ha ⟨-, h3, h4⟩
    dsimp only at h3 h4 ⊢
    subst h3; subst h4
    refine Or.inr ⟨(nI (mxv v (a + 1)) - 1, nI (a + 1)), ?_, ha, rfl, rfl⟩
    show f_Sp_widest_L4b N 27 _ τ _ _ = _
    unfold f_Sp_widest_L4b
    rw [h2, if_neg (nI_ge ha (by omega)), (hv a ha).2, obd_s, ilet_s, ilet_s, nI_1, (imx _ (mxv_lt (by omega) a (fun x hx => (hv x (by omega)).1)) _ (hv a ha).1).1]
    rfl
def cs31 (k j : Nat) : Bool := k == 32 || k == 33 || (k == 31 && j == 2)
theorem begin_31 {N n R : Nat} {τ : Hp} (hN : 1000 ≤ N) (hn : n ≤ 8) (h : IR n R (τ 12) (τ 44)) : ∃ τ', f_Sp_begin N 31 11 τ = some (0, τ') ∧ Sx cs31 τ τ' ∧ τ' 31 2 = nI R ∧ (∀ a, a < 8 → τ' 32 a = nI (szs (τ 12) 8 a)) ∧ ∀ x, x < 8 → τ' 33 x = nI (2 ^ x) := by
  have hR := h.1
  unfold f_Sp_begin
  rw [roomCount_y (t := 11) hN h.rv, obd_s, ilet_s, show rmx (τ (11 + 1)) 8 = R from h.rmx hn]
  refine lup (fun n (s : Hp × Int32) => f_Sp_begin_L10 N 31 11 n s.1 s.2) (fun i s => (Sx cs31 τ s.1 ∧ s.1 31 2 = nI R ∧ ∀ x, x < i → s.1 32 x = 0 ∧ s.1 33 x = nI (2 ^ x)) ∧ s.2 = nI i) (fun z => ∃ τ', z = some (0, τ') ∧ Sx cs31 τ τ' ∧ τ' 31 2 = nI R ∧ (∀ a, a < 8 → τ' 32 a = nI (szs (τ 12) 8 a)) ∧ ∀ x, x < 8 → τ' 33 x = nI (2 ^ x)) 8 ?_ ?_ N 0 (upR τ 31 (upd (τ 31) 2 (nI R)), 0) (Nat.zero_le _) (by omega) ⟨⟨Sx.ud rfl, rfl, fun x hx => absurd hx (Nat.not_lt_zero x)⟩, rfl⟩
  · rintro n ⟨υ, s2⟩ ⟨⟨h1, h2, h3⟩, h4⟩
    dsimp only at h1 h2 h3 h4 ⊢
    subst h4
    show ∃ τ', f_Sp_begin_L10b N 31 11 _ υ _ = some (0, τ') ∧ _
    unfold f_Sp_begin_L10b
    rw [if_pos (show (8 : Int32) ≤ nI 8 from by decide)]
    refine lup (fun n (s : Hp × Int32) => f_Sp_begin_L40 N 31 11 n s.1 s.2) (fun i s => (Sx cs31 τ s.1 ∧ s.1 31 2 = nI R ∧ (∀ a, a < 8 → s.1 32 a = nI (szs (τ 12) i a)) ∧ ∀ x, x < 8 → s.1 33 x = nI (2 ^ x)) ∧ s.2 = nI i) (fun z => ∃ τ', z = some (0, τ') ∧ Sx cs31 τ τ' ∧ τ' 31 2 = nI R ∧ (∀ a, a < 8 → τ' 32 a = nI (szs (τ 12) 8 a)) ∧ ∀ x, x < 8 → τ' 33 x = nI (2 ^ x)) 8 ?_ ?_ N 0 (υ, 0) (Nat.zero_le _) (by omega) ⟨⟨h1, h2, fun a ha => (h3 a ha).1, fun x hx => (h3 x hx).2⟩, rfl⟩
    · rintro n ⟨ω, s2⟩ ⟨⟨g1, g2, g3, g4⟩, g5⟩
      dsimp only at g1 g2 g3 g4 g5 ⊢
      subst g5
      refine ⟨ω, ?_, g1, g2, g3, g4⟩
      show f_Sp_begin_L40b N 31 11 _ ω _ = _
      unfold f_Sp_begin_L40b
      rw [if_pos (show (8 : Int32) ≤ nI 8 from by decide)]
    · rintro n i ⟨ω, s2⟩ hi ⟨⟨g1, g2, g3, g4⟩, g5⟩
      dsimp only at g1 g2 g3 g4 g5 ⊢
      subst g5
      refine Or.inr ?_
      show ∃ s' : Hp × Int32, f_Sp_begin_L40b N 31 11 _ ω _ = _ ∧ _
      unfold f_Sp_begin_L40b
      rw [if_neg (show ¬ (8 : Int32) ≤ nI i from nI_ge (b := 8) hi (by omega)), ogd_t _ (inb_n hi (by omega)), nI_clamp (by omega)]
      show ∃ s' : Hp × Int32, (if ω 12 i = (-1) then _ else ogd (inb (nI i) 8) (ogd (inb (ω 12 i) 8) (ogd (inb (ω 12 i) 8) (ilet (upR ω 32 (upd (ω 32) (ω 12 i).toNatClampNeg (ω 32 (ω 12 i).toNatClampNeg + 1))) _)))) = _ ∧ _
      rw [g1 12 i rfl]
      rcases h.rv i hi with q | ⟨b, hb, q⟩
      · rw [if_pos q, ilet_s]
        refine ⟨(ω, nI (i + 1)), by rw [nI_succ], ⟨g1, g2, fun a ha => ?_, g4⟩, rfl⟩
        show ω 32 a = _
        rw [g3 a ha, szs_s, q, if_neg (nm1_ne' (by omega))]; rfl
      · rw [q, if_neg (nm1_ne (by omega)), ogd_t _ (inb_n hi (by omega)), ogd_t _ (inb_n hb (by omega)), ogd_t _ (inb_n hb (by omega)), ilet_s, ilet_s, nI_clamp (by omega)]
        refine ⟨(upR ω 32 (upd (ω 32) b (ω 32 b + 1)), nI (i + 1)), by rw [nI_succ], ⟨g1.tr (Sx.ud rfl), g2, fun a ha => ?_, g4⟩, rfl⟩
        show upd (ω 32) b (ω 32 b + 1) a = _
        rw [upd_at, szs_s, q]
        by_cases q2 : a = b
        · rw [if_pos q2, q2, g3 b hb, if_pos rfl, nI_1]
        · rw [if_neg q2, g3 a ha, if_neg (fun e => q2 ((nI_eq (by omega) (by omega)).mp e).symm)]; rfl
  · rintro n i ⟨υ, s2⟩ hi ⟨⟨h1, h2, h3⟩, h4⟩
    dsimp only at h1 h2 h3 h4 ⊢
    subst h4
    refine Or.inr ?_
    show ∃ s' : Hp × Int32, f_Sp_begin_L10b N 31 11 _ υ _ = _ ∧ _
    unfold f_Sp_begin_L10b
    rw [if_neg (show ¬ (8 : Int32) ≤ nI i from nI_ge (b := 8) hi (by omega)), ogd_t _ (inb_n hi (by omega)), ilet_s, ogd_t _ (inb_n hi (by omega)), ilet_s, ilet_s, nI_clamp (by omega), sh8 i hi]
    refine ⟨(upR (upR υ 32 (upd (υ 32) i 0)) 33 (upd (υ 33) i (nI (2 ^ i))), nI (i + 1)), by rw [nI_succ]; rfl, ⟨(h1.tr (Sx.ud rfl)).tr (Sx.ud rfl), h2, fun x hx => ?_⟩, rfl⟩
    show upd (υ 32) i 0 x = 0 ∧ upd (υ 33) i (nI (2 ^ i)) x = nI (2 ^ x)
    rw [upd_at, upd_at]
    by_cases q : x = i
    · rw [if_pos q, if_pos q, q]; exact ⟨rfl, rfl⟩
    · rw [if_neg q, if_neg q]; exact h3 x (by omega)
theorem addRule_31 {N r m : Nat} {τ : Hp} (hr : r < 256) (hm : m < 256) (e : τ 33 (r / 32) = nI m) : f_Sp_addRule N 31 τ (nI r) = some (0, upR τ 33 (upd (τ 33) (r / 32) (nI (m ||| 2 ^ (r / 4 % 8))))) := by
  unfold f_Sp_addRule
  rw [firstOf_y hr, obd_s, ogd_t _ (inb_n (by omega) (by omega)), secondOf_y hr, obd_s, ogd_t _ (inb_n (by omega) (by omega)), ilet_s, nI_clamp (by omega)]
  show some ((0 : Int32), upR τ 33 (upd (τ 33) (r / 32) (τ 33 (r / 32) ||| (1 <<< (nI (r / 4 % 8) &&& 31))))) = _
  rw [e, or8 m hm _ (by omega)]
theorem chain_31 {N R : Nat} {τ : Hp} {M : Nat → Nat} (hN : 1000 ≤ N) (hR : R ≤ 8) (h2 : τ 31 2 = nI R) (hM : ∀ x, x < 8 → τ 33 x = nI (M x) ∧ M x < 256) : ∃ ρ : Nat → Int32, f_Sp_chain N 31 τ = some (0, upR τ 33 ρ) ∧ ∀ x, x < 8 → ρ x = nI (chM R M R x) := by
  unfold f_Sp_chain
  have hlt := ch_lt (R := R) (fun x hx => (hM x hx).2) hR
  refine lup (fun n (s : (Nat → Int32) × Int32) => f_Sp_chain_L2 N 31 n (upR τ 33 s.1) s.2) (fun k s => (∀ x, x < 8 → s.1 x = nI (chM R M k x)) ∧ s.2 = nI k) (fun z => ∃ ρ : Nat → Int32, z = some (0, upR τ 33 ρ) ∧ ∀ x, x < 8 → ρ x = nI (chM R M R x)) R ?_ ?_ N 0 (τ 33, 0) (Nat.zero_le _) (by omega) ⟨fun x hx => (hM x hx).1, rfl⟩ |> fun q => by rw [upR_id] at q; exact q
  · rintro n ⟨ρ, s2⟩ ⟨h3, h4⟩
    dsimp only at h3 h4 ⊢
    subst h4
    refine ⟨ρ, ?_, h3⟩
    show f_Sp_chain_L2b N 31 _ _ _ = _
    unfold f_Sp_chain_L2b
    show (if τ 31 2 ≤ nI R then _ else _) = _
    rw [h2, if_pos (nI_le (Nat.le_refl _) (by omega))]
  · rintro n k ⟨ρ, s2⟩ hk ⟨h3, h4⟩
    dsimp only at h3 h4 ⊢
    subst h4
    refine Or.inr ?_
    show ∃ s' : (Nat → Int32) × Int32, f_Sp_chain_L2b N 31 _ (upR τ 33 ρ) _ = _ ∧ _
    unfold f_Sp_chain_L2b
    show ∃ s' : (Nat → Int32) × Int32, (if τ 31 2 ≤ nI k then _ else _) = _ ∧ _
    rw [h2, if_neg (nI_ge hk (by omega))]
    refine lup (fun n' (s : (Nat → Int32) × Int32) => f_Sp_chain_L12 N 31 (f_Sp_chain_L2 N 31 n) n' (upR τ 33 s.1) (nI k) s.2) (fun i s => (∀ x, x < 8 → s.1 x = nI (if x < i then chM R M (k + 1) x else chM R M k x)) ∧ s.2 = nI i) (fun z => ∃ s' : (Nat → Int32) × Int32, z = f_Sp_chain_L2 N 31 n (upR τ 33 s'.1) s'.2 ∧ (∀ x, x < 8 → s'.1 x = nI (chM R M (k + 1) x)) ∧ s'.2 = nI (k + 1)) R ?_ ?_ N 0 (ρ, 0) (Nat.zero_le _) (by omega) ⟨fun x hx => by rw [if_neg (Nat.not_lt_zero x)]; exact h3 x hx, rfl⟩
    · rintro n' ⟨ρ, s2⟩ ⟨g3, g4⟩
      dsimp only at g3 g4 ⊢
      subst g4
      refine ⟨(ρ, nI (k + 1)), ?_, fun x hx => ?_, rfl⟩
      · show f_Sp_chain_L12b N 31 _ _ (upR τ 33 ρ) _ _ = _
        unfold f_Sp_chain_L12b
        show (if τ 31 2 ≤ nI R then _ else _) = _
        rw [h2, if_pos (nI_le (Nat.le_refl _) (by omega)), ilet_s, nI_1]
      · show ρ x = _
        rw [g3 x hx]
        by_cases q : x < R
        · rw [if_pos q]
        · rw [if_neg q]
          show _ = nI (if x < R ∧ (chM R M k x).testBit k = true then chM R M k x ||| chM R M k k else chM R M k x)
          rw [if_neg (fun e => q e.1)]
    · rintro n' i ⟨ρ, s2⟩ hi ⟨g3, g4⟩
      dsimp only at g3 g4 ⊢
      subst g4
      refine Or.inr ?_
      show ∃ s' : (Nat → Int32) × Int32, f_Sp_chain_L12b N 31 _ _ (upR τ 33 ρ) _ _ = _ ∧ _
      unfold f_Sp_chain_L12b
      show ∃ s' : (Nat → Int32) × Int32, (if τ 31 2 ≤ nI i then _ else ogd (inb (nI i) 8) (if ((ρ (nI i).toNatClampNeg >>> (nI k &&& 31)) &&& 1) = 1 then ogd (inb (nI i) 8) (ogd (inb (nI k) 8) (ogd (inb (nI i) 8) (ilet (upR (upR τ 33 ρ) 33 (upd ρ (nI i).toNatClampNeg (ρ (nI i).toNatClampNeg ||| ρ (nI k).toNatClampNeg))) _))) else _)) = _ ∧ _
      have ei : ρ i = nI (chM R M k i) := by rw [g3 i (by omega), if_neg (by omega)]
      have ek : ∃ mk, mk < 256 ∧ ρ k = nI mk ∧ chM R M k i ||| mk = chM R M k i ||| chM R M k k := by
        by_cases q : k < i
        · refine ⟨chM R M (k + 1) k, hlt (k + 1) (by omega) k (by omega), by rw [g3 k (by omega), if_pos q], ?_⟩
          apply Nat.eq_of_testBit_eq; intro j
          rw [Nat.testBit_or, Nat.testBit_or]
          congr 1
          cases h5 : (chM R M (k + 1) k).testBit j
          · cases h6 : (chM R M k k).testBit j
            · rfl
            · rw [ch_bit.mpr (Or.inl h6)] at h5; cases h5
          · have := ch_bit.mp h5
            have h6 : (chM R M k k).testBit j = true := this.elim id (fun q => q.2.2)
            rw [h6]
        · exact ⟨chM R M k k, hlt k (by omega) k (by omega), by rw [g3 k (by omega), if_neg q], rfl⟩
      obtain ⟨mk, hmk, ek1, ek3⟩ := ek
      rw [h2, if_neg (nI_ge hi (by omega)), ogd_t _ (inb_n (i := i) (by omega) (by omega)), nI_clamp (by omega), nI_clamp (by omega), ei]
      by_cases q : (chM R M k i).testBit k = true
      · rw [if_pos ((bt8 _ (hlt k (by omega) i (by omega)) k (by omega)).mpr q), ogd_t _ (inb_n (i := i) (by omega) (by omega)), ogd_t _ (inb_n (i := k) (by omega) (by omega)), ogd_t _ (inb_n (i := i) (by omega) (by omega)), ilet_s, ilet_s, upR_2, ek1, or_nI (hlt k (by omega) i (by omega)) hmk, ek3]
        refine ⟨(upd ρ i (nI (chM R M k i ||| chM R M k k)), nI (i + 1)), by rw [nI_succ], fun x hx => ?_, rfl⟩
        show upd ρ i _ x = _
        rw [upd_at]
        by_cases q2 : x = i
        · rw [if_pos q2, q2, if_pos (by omega)]
          show _ = nI (if i < R ∧ (chM R M k i).testBit k = true then chM R M k i ||| chM R M k k else chM R M k i)
          rw [if_pos ⟨hi, q⟩]
        · rw [if_neg q2, g3 x hx]
          by_cases q3 : x < i
          · rw [if_pos q3, if_pos (by omega)]
          · rw [if_neg q3, if_neg (by omega)]
      · rw [if_neg (fun e => q ((bt8 _ (hlt k (by omega) i (by omega)) k (by omega)).mp e)), ilet_s]
        refine ⟨(ρ, nI (i + 1)), by rw [nI_succ], fun x hx => ?_, rfl⟩
        show ρ x = _
        rw [g3 x hx]
        by_cases q2 : x = i
        · rw [q2, if_neg (by omega), if_pos (by omega)]
          show _ = nI (if i < R ∧ (chM R M k i).testBit k = true then chM R M k i ||| chM R M k k else chM R M k i)
          rw [if_neg (fun e => q e.2)]
        · by_cases q3 : x < i
          · rw [if_pos q3, if_pos (by omega)]
          · rw [if_neg q3, if_neg (by omega)]
theorem others_31 {N R x m : Nat} {τ : Hp} {sz : Nat → Nat} (hN : 1000 ≤ N) (hR : R ≤ 8) (hx : x < 8) (h2 : τ 31 2 = nI R) (hm : m < 256) (e : τ 33 x = nI m) (hs : ∀ a, a < 8 → τ 32 a = nI (sz a)) : f_Sp_othersFrom N 31 τ (nI x) = some (nI (ss m sz R) - 1, τ) := by
  unfold f_Sp_othersFrom
  refine lup (fun n (s : Int32 × Int32) => f_Sp_othersFrom_L4 N 31 n τ (nI x) s.1 s.2) (fun i s => s.1 = nI (ss m sz i) ∧ s.2 = nI i) (fun z => z = some (nI (ss m sz R) - 1, τ)) R ?_ ?_ N 0 (0, 0) (Nat.zero_le _) (by omega) ⟨rfl, rfl⟩
  · rintro n ⟨s1, s2⟩ ⟨h3, h4⟩
    dsimp only at h3 h4 ⊢
    subst h3; subst h4
    show f_Sp_othersFrom_L4b N 31 _ τ _ _ _ = _
    unfold f_Sp_othersFrom_L4b
    rw [h2, if_pos (nI_le (Nat.le_refl _) (by omega))]
  · rintro n a ⟨s1, s2⟩ ha ⟨h3, h4⟩
    dsimp only at h3 h4 ⊢
    subst h3; subst h4
    refine Or.inr ?_
    show ∃ s' : Int32 × Int32, f_Sp_othersFrom_L4b N 31 _ τ _ _ _ = _ ∧ _
    unfold f_Sp_othersFrom_L4b
    rw [h2, if_neg (nI_ge ha (by omega)), ogd_t _ (inb_n hx (by omega)), nI_clamp (by omega)]
    show ∃ s' : Int32 × Int32, (if ((τ 33 x >>> (nI a &&& 31)) &&& 1) = 1 then ogd (inb (nI a) 8) (ilet (_ + τ 32 (nI a).toNatClampNeg) _) else _) = _ ∧ _
    rw [e]
    by_cases q : m.testBit a = true
    · rw [if_pos ((bt8 m hm a (by omega)).mpr q), ogd_t _ (inb_n (i := a) (by omega) (by omega)), ilet_s, ilet_s, nI_clamp (by omega), hs a (by omega), nI_add]
      exact ⟨(nI (ss m sz a + sz a), nI (a + 1)), by rw [nI_succ], by rw [ss, if_pos q], rfl⟩
    · rw [if_neg (fun e => q ((bt8 m hm a (by omega)).mp e)), ilet_s]
      exact ⟨(nI (ss m sz a), nI (a + 1)), by rw [nI_succ], by rw [ss, if_neg q]; rfl, rfl⟩
theorem widest_31 {N R : Nat} {τ : Hp} {v : Nat → Nat} (hN : 1000 ≤ N) (hR : R ≤ 8) (h2 : τ 31 2 = nI R) (hv : ∀ x, x < R → v x < 9 ∧ f_Sp_othersFrom N 31 τ (nI x) = some (nI (v x) - 1, τ)) : f_Sp_widest N 31 τ = some (nI (mxv v R) - 1, τ) := by
  unfold f_Sp_widest
  refine lup (fun n (s : Int32 × Int32) => f_Sp_widest_L4 N 31 n τ s.1 s.2) (fun i s => i ≤ R ∧ s.1 = nI (mxv v i) - 1 ∧ s.2 = nI i) (fun z => z = some (nI (mxv v R) - 1, τ)) R ?_ ?_ N 0 ((-1), 0) (Nat.zero_le _) (by omega) ⟨Nat.zero_le _, rfl, rfl⟩
  · rintro n ⟨s1, s2⟩ ⟨-, h3, h4⟩
    dsimp only at h3 h4 ⊢
    subst h3; subst h4
    show f_Sp_widest_L4b N 31 _ τ _ _ = _
    unfold f_Sp_widest_L4b
    rw [h2, if_pos (nI_le (Nat.le_refl _) (by omega))]
  · rintro n a ⟨s1, s2⟩ ha ⟨-, h3, h4⟩
    dsimp only at h3 h4 ⊢
    subst h3; subst h4
    refine Or.inr ⟨(nI (mxv v (a + 1)) - 1, nI (a + 1)), ?_, ha, rfl, rfl⟩
    show f_Sp_widest_L4b N 31 _ τ _ _ = _
    unfold f_Sp_widest_L4b
    rw [h2, if_neg (nI_ge ha (by omega)), (hv a ha).2, obd_s, ilet_s, ilet_s, nI_1, (imx _ (mxv_lt (by omega) a (fun x hx => (hv x (by omega)).1)) _ (hv a ha).1).1]
    rfl
