theorem wle : ∀ W, W < 9 → ∀ v, v < 9 → ((nI W - 1 ≤ nI v ↔ W ≤ v + 1) ∧ (nI v < nI W - 1 ↔ ¬ W ≤ v + 1)) := by decide +kernel
theorem sh13 : ∀ y, y < 13 → ((1 : Int32) <<< (nI y &&& 31)) = nI (2 ^ y) := by decide +kernel
noncomputable def Wd (τ : Hp) (R x : Nat) : Nat := mxv (vR τ (Px τ x)) R
theorem Wd_lt {τ : Hp} {R x : Nat} : Wd τ R x < 9 := by
  have := mxv_le (v := vR τ (Px τ x)) (B := 8) R (fun j _ => vR_le)
  unfold Wd; omega
def OkS (τ : Hp) (R v x : Nat) : Prop := Wd τ R x ≤ v + 1
def Bst (τ : Hp) (R v c : Nat) (T : Nat → Nat) (m b : Nat) : Prop := OkS τ R v b ∧ ∀ y, y < m → OkS τ R v y → ss b T c ≤ ss y T c ∧ (y < b → ss b T c < ss y T c)
theorem Bst.uq {τ : Hp} {R v c m b b' : Nat} {T : Nat → Nat} (h : Bst τ R v c T m b) (h' : Bst τ R v c T m b') (hb : b < m) (hb' : b' < m) : b = b' := by
  have h1 := h.2 b' hb' h'.1
  have h2 := h'.2 b hb h.1
  rcases Nat.lt_trichotomy b b' with q | q | q
  · have := h2.2 q; omega
  · exact q
  · have := h1.2 q; omega
theorem ss_le_full {x : Nat} {T : Nat → Nat} {m : Nat} : ∀ c, c ≤ m → (∀ i, i < c → 1 ≤ T i) → ss x T c ≤ ss (2 ^ m - 1) T c ∧ (ss (2 ^ m - 1) T c ≤ ss x T c → ∀ i, i < c → x.testBit i = true)
  | 0, _, _ => ⟨Nat.le_refl _, fun _ i hi => absurd hi (Nat.not_lt_zero i)⟩
  | c + 1, hc, hT => by
    have ih := ss_le_full (x := x) (T := T) (m := m) c (by omega) (fun i hi => hT i (by omega))
    have ht : (2 ^ m - 1).testBit c = true := by rw [Nat.testBit_two_pow_sub_one]; exact decide_eq_true (by omega)
    have h1 := hT c (by omega)
    rw [ss, ss, if_pos ht]
    by_cases q : x.testBit c = true
    · rw [if_pos q]
      refine ⟨by omega, fun h i hi => ?_⟩
      rcases Nat.lt_or_ge i c with q2 | q2
      · exact ih.2 (by omega) i q2
      · have : i = c := by omega
        subst this; exact q
    · rw [if_neg q]
      exact ⟨by omega, fun h => by omega⟩
theorem ss_full {x c : Nat} {T : Nat → Nat} (hT : ∀ i, i < c → 1 ≤ T i) (hx : x < 2 ^ c - 1) : ss x T c < ss (2 ^ c - 1) T c := by
  have h := ss_le_full (x := x) (T := T) (m := c) c (Nat.le_refl _) hT
  rcases Nat.lt_or_ge (ss x T c) (ss (2 ^ c - 1) T c) with q | q
  · exact q
  · have h2 := h.2 q
    have : x = 2 ^ c - 1 := Nat.eq_of_testBit_eq (fun i => by
      rw [Nat.testBit_two_pow_sub_one]
      rcases Nat.lt_or_ge i c with q2 | q2
      · rw [h2 i q2]; exact (decide_eq_true q2).symm
      · rw [Nat.testBit_lt_two_pow (Nat.lt_of_lt_of_le (show x < 2 ^ c by omega) (Nat.pow_le_pow_right (by omega) q2))]
        exact (decide_eq_false (by omega)).symm)
    omega
theorem Wd_full {τ : Hp} {R c x : Nat} (hc : c = cnt (ob (Cn τ)) 256) : Wd τ R (2 ^ c - 1) ≤ Wd τ R x := mxv_mono R (fun a _ => vR_mono (fun r hr hp => ⟨hp.1, fun e => hp.2 ⟨e.1, by
  rw [Nat.testBit_two_pow_sub_one]
  exact decide_eq_true (by rw [hc]; exact cn_lt e.1 hr)⟩⟩))
noncomputable def bc (b : Nat) (i : Nat) : Nat := cnt (ob (fun k => b.testBit k = true)) i
theorem choose_y {N c b : Nat} {υ : Hp} (hN : 1000 ≤ N) (hc : c ≤ 12) (h1 : υ 30 5 = nI c) (hb : b < 2 ^ 20) : ∃ υ', f_Sh_choose N 30 υ (nI b) = some (0, υ') ∧ Sx (fun k j => k == 38 || (k == 30 && j == 7)) υ υ' ∧ υ' 30 7 = nI (bc b c) ∧ ∀ i, i < c → b.testBit i = true → υ' 38 (bc b i) = υ 35 i := by
  unfold f_Sh_choose
  rw [ilet_s]
  refine lup (fun n' (s : Hp × Int32) => f_Sh_choose_L7 N 30 n' s.1 (nI b) s.2) (fun i s => (Sx (fun k j => k == 38 || (k == 30 && j == 7)) υ s.1 ∧ s.1 30 7 = nI (bc b i) ∧ ∀ k, k < i → b.testBit k = true → s.1 38 (bc b k) = υ 35 k) ∧ s.2 = nI i) (fun z => ∃ υ', z = some (0, υ') ∧ Sx (fun k j => k == 38 || (k == 30 && j == 7)) υ υ' ∧ υ' 30 7 = nI (bc b c) ∧ ∀ i, i < c → b.testBit i = true → υ' 38 (bc b i) = υ 35 i) c ?_ ?_ N 0 (upR υ 30 (upd (υ 30) 7 0), 0) (Nat.zero_le _) (by omega) ⟨⟨Sx.ud rfl, rfl, fun k hk => absurd hk (Nat.not_lt_zero k)⟩, rfl⟩
  · rintro n' ⟨ω, s2⟩ ⟨⟨g1, g2, g3⟩, g4⟩
    dsimp only at g1 g2 g3 g4 ⊢
    subst g4
    refine ⟨ω, ?_, g1, g2, g3⟩
    show f_Sh_choose_L7b N 30 _ ω _ _ = _
    unfold f_Sh_choose_L7b
    rw [g1 30 5 rfl, h1, if_pos (nI_le (Nat.le_refl _) (by omega))]
  · rintro n' i ⟨ω, s2⟩ hi ⟨⟨g1, g2, g3⟩, g4⟩
    dsimp only at g1 g2 g3 g4 ⊢
    subst g4
    refine Or.inr ?_
    show ∃ s' : Hp × Int32, f_Sh_choose_L7b N 30 _ ω _ _ = _ ∧ _
    unfold f_Sh_choose_L7b
    rw [g1 30 5 rfl, h1, if_neg (nI_ge hi (by omega))]
    by_cases q : b.testBit i = true
    · have hle : bc b i ≤ i := cn_le _ i
      rw [if_pos ((bt12 hb (by omega)).1.mpr q), ogd_t _ (inb_n (i := i) (by omega) (by omega)), g2, ogd_t _ (inb_n (i := bc b i) (by omega) (by omega)), ilet_s, ilet_s, ilet_s, nI_1, nI_clamp (by omega), nI_clamp (by omega)]
      refine ⟨(upR (upR ω 38 (upd (ω 38) (bc b i) (ω 35 i))) 30 (upd (ω 30) 7 (nI (bc b (i + 1)))), nI (i + 1)), ?_, ⟨(g1.tr (Sx.ud rfl)).tr (Sx.ud (k := 30) (i := 7) rfl), rfl, fun k hk hk2 => ?_⟩, rfl⟩
      · show f_Sh_choose_L7 N 30 n' (upR (upR ω 38 (upd (ω 38) (bc b i) (ω 35 i))) 30 (upd (ω 30) 7 (ω 30 7 + 1))) (nI b) (nI (i + 1)) = _
        rw [g2, nI_1]
        unfold bc
        rw [cn_y (P := fun k => b.testBit k = true) q]
      · show upd (ω 38) (bc b i) (ω 35 i) (bc b k) = υ 35 k
        rcases Nat.lt_or_ge k i with q2 | q2
        · have := cn_lt (P := fun k => b.testBit k = true) hk2 q2
          unfold bc
          rw [upd_at, if_neg (by omega)]
          exact g3 k q2 hk2
        · have : k = i := by omega
          subst this
          rw [upd_eq]; exact g1 35 k rfl
    · rw [if_neg (fun e => q ((bt12 hb (by omega)).1.mp e)), ilet_s, nI_1]
      refine ⟨(ω, nI (i + 1)), rfl, ⟨g1, ?_, fun k hk hk2 => ?_⟩, rfl⟩
      · unfold bc; rw [cn_n (P := fun k => b.testBit k = true) q]; exact g2
      · rcases Nat.lt_or_ge k i with q2 | q2
        · exact g3 k q2 hk2
        · have : k = i := by omega
          subst this; exact absurd hk2 q
def cSd (k j : Nat) : Bool := cSc k j || (k == 38 || (k == 30 && j == 7))
theorem seekL_y {N n R c v : Nat} {τ υ : Hp} {T : Nat → Nat} (hN : 1000000 ≤ N) (hP : IvP τ n 1 R) (hG : Gt τ υ R c T) (hv : v < 9) (hF : OkS τ R v (2 ^ c - 1)) : ∃ ρ b, b < 2 ^ c ∧ Bst τ R v c T (2 ^ c) b ∧ f_Sh_seekSet_L51 N 30 10 3 N υ (nI v) (nI (2 ^ c)) (nI (2 ^ c - 1)) (nI (ss (2 ^ c - 1) T c)) 0 = obd (f_Sh_choose N 30 (upR υ 33 ρ) (nI b)) (fun _ τ2 => some (nI (ss b T c), τ2)) := by
  have hc := hG.2.1
  have h12 : 2 ^ c ≤ 4096 := Nat.pow_le_pow_right (n := 2) (j := 12) (by omega) hc
  have hp : 1 ≤ 2 ^ c := Nat.one_le_two_pow
  have hT := hG.2.2.2.2.1
  have hsb : ∀ x, ss x T c < 2 ^ 31 := fun x => by
    have h1 := ss_bd (x := x) (T := T) (B := 19180800) c (fun i hi => (hT i hi).2.2)
    have h2 : c * 19180800 ≤ 12 * 19180800 := Nat.mul_le_mul_right _ hc
    omega
  refine lup (fun n' (s : (Nat → Int32) × Int32 × Int32 × Int32) => f_Sh_seekSet_L51 N 30 10 3 n' (upR υ 33 s.1) (nI v) (nI (2 ^ c)) s.2.1 s.2.2.1 s.2.2.2) (fun i s => (∃ b, b < 2 ^ c ∧ (b < i ∨ b = 2 ^ c - 1) ∧ Bst τ R v c T i b ∧ s.2.1 = nI b ∧ s.2.2.1 = nI (ss b T c)) ∧ s.2.2.2 = nI i) (fun z => ∃ ρ b, b < 2 ^ c ∧ Bst τ R v c T (2 ^ c) b ∧ z = obd (f_Sh_choose N 30 (upR υ 33 ρ) (nI b)) (fun _ τ2 => some (nI (ss b T c), τ2))) (2 ^ c) ?_ ?_ N 0 (υ 33, nI (2 ^ c - 1), nI (ss (2 ^ c - 1) T c), 0) (Nat.zero_le _) (by omega) ⟨⟨2 ^ c - 1, by omega, Or.inr rfl, ⟨hF, fun y hy => absurd hy (Nat.not_lt_zero y)⟩, rfl, rfl⟩, rfl⟩ |> fun h => by rw [upR_id] at h; exact h
  · rintro n' ⟨ρ, s1, s2, s3⟩ ⟨⟨b, b1, b2, b3, b4, b5⟩, b6⟩
    dsimp only at b4 b5 b6 ⊢
    subst b4; subst b5; subst b6
    refine ⟨ρ, b, b1, b3, ?_⟩
    show f_Sh_seekSet_L51b N 30 10 3 _ (upR υ 33 ρ) _ _ _ _ _ = _
    unfold f_Sh_seekSet_L51b
    rw [if_pos (nI_le (Nat.le_refl _) (by omega))]
  · rintro n' i ⟨ρ, s1, s2, s3⟩ hi ⟨⟨b, b1, b2, b3, b4, b5⟩, b6⟩
    dsimp only at b4 b5 b6 ⊢
    subst b4; subst b5; subst b6
    refine Or.inr ?_
    show ∃ s' : (Nat → Int32) × Int32 × Int32 × Int32, f_Sh_seekSet_L51b N 30 10 3 _ (upR υ 33 ρ) _ _ _ _ _ = _ ∧ _
    unfold f_Sh_seekSet_L51b
    rw [if_neg (nI_ge hi (by omega)), toll_y (υ := upR υ 33 ρ) (by omega) (hG.u33 ρ) (show i < 2 ^ 20 by omega), obd_s]
    by_cases q1 : ss b T c ≤ ss i T c
    · rw [if_pos (nI_le q1 (hsb i)), ilet_s, nI_1]
      refine ⟨(ρ, nI b, nI (ss b T c), nI (i + 1)), rfl, ⟨b, b1, by omega, ⟨b3.1, fun y hy ho => ?_⟩, rfl, rfl⟩, rfl⟩
      rcases Nat.lt_or_ge y i with q2 | q2
      · exact b3.2 y q2 ho
      · have : y = i := by omega
        subst this
        refine ⟨q1, fun q3 => ?_⟩
        have hb : b = 2 ^ c - 1 := by omega
        subst hb
        have := ss_full (T := T) (fun i hi => (hT i hi).2.1) q3
        omega
    · obtain ⟨ρ', w1⟩ := ww_y (N := N) (x := i) (by omega) hP (hG.u33 ρ) (show i < 2 ^ 20 by omega)
      rw [upR_2] at w1
      rw [if_neg (nI_ge (show ss i T c < ss b T c by omega) (hsb b)), w1, obd_s]
      have hw := wle (Wd τ R i) Wd_lt v hv
      by_cases q2 : OkS τ R v i
      · rw [if_neg (show ¬ nI v < nI (mxv (vR τ (Px τ i)) R) - 1 from fun e => (hw.2.mp e) q2), ilet_s, nI_1]
        refine ⟨(ρ', nI i, nI (ss i T c), nI (i + 1)), rfl, ⟨i, hi, by omega, ⟨q2, fun y hy ho => ?_⟩, rfl, rfl⟩, rfl⟩
        rcases Nat.lt_or_ge y i with q3 | q3
        · have := (b3.2 y q3 ho).1
          exact ⟨by omega, fun _ => by omega⟩
        · have : y = i := by omega
          subst this; exact ⟨Nat.le_refl _, fun e => absurd e (Nat.lt_irrefl _)⟩
      · rw [if_pos (show nI v < nI (mxv (vR τ (Px τ i)) R) - 1 from hw.2.mpr q2), ilet_s, nI_1]
        refine ⟨(ρ', nI b, nI (ss b T c), nI (i + 1)), rfl, ⟨b, b1, by omega, ⟨b3.1, fun y hy ho => ?_⟩, rfl, rfl⟩, rfl⟩
        rcases Nat.lt_or_ge y i with q3 | q3
        · exact b3.2 y q3 ho
        · have : y = i := by omega
          subst this; exact absurd ho q2
def TT (τ : Hp) (T : Nat → Nat) : Prop := ∀ r, r < 256 → Cn τ r → tl τ r = nI (T (cnt (ob (Cn τ)) r)) ∧ 1 ≤ T (cnt (ob (Cn τ)) r) ∧ T (cnt (ob (Cn τ)) r) ≤ 19180800
theorem seek_y {N n R v : Nat} {τ : Hp} (hN : 1000000 ≤ N) (hn : n ≤ 8) (hB : RB (τ 3) (τ 48)) (hP : IvP τ n 1 R) (hv : v < 9) : ∃ τ', (12 < cnt (ob (Cn τ)) 256 ∧ f_Sh_seekSet N 30 10 3 τ (nI v) = some ((-2), τ') ∧ Sx cSc τ τ') ∨ (cnt (ob (Cn τ)) 256 ≤ 12 ∧ ∃ T, TT τ T ∧ (((∀ x, ¬ OkS τ R v x) ∧ f_Sh_seekSet N 30 10 3 τ (nI v) = some ((-1), τ') ∧ Sx cSc τ τ') ∨ (∃ b, b < 2 ^ cnt (ob (Cn τ)) 256 ∧ Bst τ R v (cnt (ob (Cn τ)) 256) T (2 ^ cnt (ob (Cn τ)) 256) b ∧ f_Sh_seekSet N 30 10 3 τ (nI v) = some (nI (ss b T (cnt (ob (Cn τ)) 256)), τ') ∧ Sx cSd τ τ' ∧ τ' 30 7 = nI (bc b (cnt (ob (Cn τ)) 256)) ∧ ∀ r, r < 256 → Cn τ r → b.testBit (cnt (ob (Cn τ)) r) = true → τ' 38 (bc b (cnt (ob (Cn τ)) r)) = nI (cq (τ 57) r)))) := by
  unfold f_Sh_seekSet
  obtain ⟨υ, s1, s2⟩ := cans_y (N := N) (by omega) hn hB hP
  rcases s2 with ⟨hc, a1, a2, a3, a4, a5, a6⟩ | ⟨hc, a1⟩
  · obtain ⟨c, ec⟩ : ∃ c, c = cnt (ob (Cn τ)) 256 := ⟨_, rfl⟩
    rw [← ec] at hc a2 ⊢
    have hTT : TT τ (fun i => (υ 37 i).toNatClampNeg) := fun r hr hcn => by
      obtain ⟨T, t1, t2, t3⟩ := tl_nat hn hP hr hcn.1
      show tl τ r = nI (υ 37 (cnt (ob (Cn τ)) r)).toNatClampNeg ∧ 1 ≤ (υ 37 (cnt (ob (Cn τ)) r)).toNatClampNeg ∧ (υ 37 (cnt (ob (Cn τ)) r)).toNatClampNeg ≤ _
      rw [(a3 r hr hcn).2.2, t1, nI_clamp (by omega)]
      exact ⟨rfl, t2, t3⟩
    have hG : Gt τ υ R c (fun i => (υ 37 i).toNatClampNeg) := ⟨a2, hc, ec, fun r hr hcn => ⟨(a3 r hr hcn).1, (a3 r hr hcn).2.1⟩, fun i hi => by
      obtain ⟨r, hr, hcn, hci⟩ := cn_kth (P := Cn τ) (j := i) (n := 256) (by omega)
      have h1 := hTT r hr hcn
      have h2 := (a3 r hr hcn).2.2
      rw [hci] at h1 h2
      exact ⟨h2.trans h1.1, h1.2⟩, a4, a5, a6⟩
    have h12 : 2 ^ c ≤ 4096 := Nat.pow_le_pow_right (n := 2) (j := 12) (by omega) hc
    have hp : 1 ≤ 2 ^ c := Nat.one_le_two_pow
    obtain ⟨ρ, w1⟩ := ww_y (N := N) (x := 2 ^ c - 1) (by omega) hP hG (by omega)
    have hw := wle (Wd τ R (2 ^ c - 1)) Wd_lt v hv
    have e0 : ∀ K : Int32 → Hp → OR, obd (f_Sh_gatherCans N 30 10 3 τ) K = K 1 υ := fun K => by rw [a1]; rfl
    rw [e0, if_neg (by decide), a2, ilet_s, sh13 c (by omega), show nI (2 ^ c) - 1 = nI (2 ^ c - 1) from pk_sub (a := 2 ^ c) (b := 1) hp, w1, obd_s]
    by_cases q : OkS τ R v (2 ^ c - 1)
    · rw [if_pos (show nI (mxv (vR τ (Px τ (2 ^ c - 1))) R) - 1 ≤ nI v from hw.1.mpr q), ilet_s, toll_y (υ := upR υ 33 ρ) (by omega) (hG.u33 ρ) (show 2 ^ c - 1 < 2 ^ 20 by omega), obd_s]
      obtain ⟨ρ', b, b1, b2, b3⟩ := seekL_y (υ := upR υ 33 ρ) hN hP (hG.u33 ρ) hv q
      rw [upR_2] at b3
      obtain ⟨ω, c1, c2, c3, c4⟩ := choose_y (N := N) (b := b) (υ := upR υ 33 ρ') (by omega) hc a2 (by omega)
      rw [b3, c1, obd_s]
      refine ⟨ω, Or.inr ⟨hc, _, hTT, Or.inr ⟨b, b1, b2, rfl, ?_, c3, fun r hr hcn hbt => ?_⟩⟩⟩
      · exact (Sx.tr (τ1 := upR υ 33 ρ') ((s1.tr (Sx.u (fun j hj => by cases hj))).mono (fun k j q => (Bool.or_eq_false_iff.mp q).1)) (c2.mono (fun k j q => (Bool.or_eq_false_iff.mp q).2)))
      · rw [c4 _ (by rw [ec]; exact cn_lt hcn hr) hbt]; exact (a3 r hr hcn).1
    · rw [if_neg (show ¬ nI (mxv (vR τ (Px τ (2 ^ c - 1))) R) - 1 ≤ nI v from fun e => q (hw.1.mp e))]
      refine ⟨upR υ 33 ρ, Or.inr ⟨hc, _, hTT, Or.inl ⟨fun x hx => q ?_, rfl, s1.tr (Sx.u (fun j hj => by cases hj))⟩⟩⟩
      have := Wd_full (τ := τ) (R := R) (x := x) ec
      unfold OkS at hx ⊢; omega
  · refine ⟨υ, Or.inl ⟨hc, ?_, s1⟩⟩
    rw [a1, obd_s, if_pos rfl]
