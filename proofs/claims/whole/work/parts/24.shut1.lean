theorem sh32 : ∀ i, i < 32 → ((nI i &&& 31).toBitVec.smod 32).toNat = i := by decide +kernel
theorem bt12 {x i : Nat} (hx : x < 2 ^ 20) (hi : i < 20) : (((nI x >>> (nI i &&& 31)) &&& 1) = 1 ↔ x.testBit i = true) ∧ (((nI x >>> (nI i &&& 31)) &&& 1) = 0 ↔ ¬ x.testBit i = true) := by
  have e : ((nI x >>> (nI i &&& 31)) &&& 1) = nI (x / 2 ^ i % 2) := by
    rw [pk_shrN (by omega) _ i (sh32 i (by omega)), show (1 : Int32) = nI 1 from rfl]
    have h1 : x / 2 ^ i ≤ x := Nat.div_le_self _ _
    exact pk_andN (by omega) 1 rfl
  have h2 : x / 2 ^ i % 2 < 2 := Nat.mod_lt _ (by omega)
  rw [e, Nat.testBit_eq_decide_div_mod_eq, decide_eq_true_eq, show (1 : Int32) = nI 1 from rfl, show (0 : Int32) = nI 0 from rfl, nI_eq (by omega) (by omega), nI_eq (by omega) (by omega)]
  omega
def Cn (τ : Hp) (r : Nat) : Prop := τ 57 r = 1 ∧ ¬ mustBy τ r
def tl (τ : Hp) (r : Nat) : Int32 := sI (fun a => sI (gB τ r (fun w => imax 1 (τ 16 w)) a) 8) 8
def rk (τ : Hp) (k : Nat) : Nat := (τ 17 k).toNatClampNeg
def Px (τ : Hp) (x r : Nat) : Prop := τ 57 r = 1 ∧ ¬ (Cn τ r ∧ x.testBit (cnt (ob (Cn τ)) r) = true)
theorem cnt_rk {τ : Hp} {n mk R : Nat} (hP : IvP τ n mk R) : ∀ p, p ≤ 256 → cnt (ob (fun k => Cn τ (rk τ k))) (cq (τ 57) p) = cnt (ob (Cn τ)) p
  | 0, _ => rfl
  | p + 1, hp => by
    have ih := cnt_rk hP p (by omega)
    have u5 := hP.2.2.2.2.2.2.1.2.2.2.2.1
    rw [cq_s]
    by_cases h : τ 57 p = 1
    · have erk : rk τ (cq (τ 57) p) = p := by unfold rk; rw [u5 p (by omega) h, nI_clamp (by omega)]
      rw [if_pos h]
      by_cases h2 : Cn τ p
      · rw [cn_y (P := Cn τ) h2, cn_y (P := fun k => Cn τ (rk τ k)) (by show Cn τ _; rw [erk]; exact h2), ih]
      · rw [cn_n (P := Cn τ) h2, cn_n (P := fun k => Cn τ (rk τ k)) (by show ¬ Cn τ _; rw [erk]; exact h2), ih]
    · rw [if_neg h, cn_n (P := Cn τ) (fun e => h e.1)]; exact ih
/-- what may change while rules to shut are sought -/
def cSc (k j : Nat) : Bool := k == 32 || k == 33 || k == 34 || k == 35 || k == 36 || k == 37 || (k == 31 && j == 2) || (k == 30 && j == 5)
theorem cs31_S {τ τ' : Hp} (h : Sx cs31 τ τ') : Sx cSc τ τ' := h.mono (fun k j q => by
  unfold cSc at q
  unfold cs31
  simp only [Bool.or_eq_false_iff, Bool.and_eq_false_iff, beq_eq_false_iff_ne] at q ⊢
  omega)
theorem By.cg {τ τ' : Hp} (h12 : τ' 12 = τ 12) (h48 : τ' 48 = τ 48) {r : Nat} : mustBy τ' r ↔ mustBy τ r := by unfold mustBy By; rw [h12, h48]
theorem gB_cg {τ τ' : Hp} (h12 : τ' 12 = τ 12) (h52 : τ' 52 = τ 52) (h16 : τ' 16 = τ 16) (r : Nat) : tl τ' r = tl τ r := by
  unfold tl
  refine sI_cg (fun a _ => sI_cg (fun b _ => ?_))
  unfold gB; rw [h12, h52, h16]
theorem cans_y {N n R : Nat} {τ : Hp} (hN : 1000 ≤ N) (hn : n ≤ 8) (hB : RB (τ 3) (τ 48)) (hP : IvP τ n 1 R) : ∃ τ', Sx cSc τ τ' ∧ ((cnt (ob (Cn τ)) 256 ≤ 12 ∧ f_Sh_gatherCans N 30 10 3 τ = some (1, τ') ∧ τ' 30 5 = nI (cnt (ob (Cn τ)) 256) ∧ (∀ r, r < 256 → Cn τ r → τ' 35 (cnt (ob (Cn τ)) r) = nI (cq (τ 57) r) ∧ τ' 36 (cnt (ob (Cn τ)) r) = nI r ∧ τ' 37 (cnt (ob (Cn τ)) r) = tl τ r) ∧ τ' 31 2 = nI R ∧ (∀ a, a < 8 → τ' 32 a = nI (szs (τ 12) 8 a)) ∧ ∃ M : Nat → Nat, (∀ x, x < 8 → τ' 34 x = nI (M x) ∧ M x < 256) ∧ ∀ x y, x < 8 → ((M x).testBit y = true ↔ (y = x ∨ ∃ r, r < 256 ∧ (τ 57 r = 1 ∧ mustBy τ r) ∧ r / 32 = x ∧ r / 4 % 8 = y))) ∨ (12 < cnt (ob (Cn τ)) 256 ∧ f_Sh_gatherCans N 30 10 3 τ = some (0, τ'))) := by
  obtain ⟨p1, p2, p3, p4, p5, p6, ⟨u1, u2, u3, u4, u5, u6⟩, p8, p9⟩ := id hP
  have hR := p6.1
  unfold f_Sh_gatherCans
  rw [ilet_s]
  have hIR1 : IR n R (upR τ 30 (upd (τ 30) 5 0) 12) (upR τ 30 (upd (τ 30) 5 0) 44) := p6
  obtain ⟨τ1, b1, b2, b3, b4, b5⟩ := begin_31 (N := N) hN hn hIR1
  have hs1 : Sx cSc τ τ1 := (Sx.ud rfl).tr (cs31_S b2)
  rw [show f_Sp_begin N (30 + 1) (10 + 1) (upR τ 30 (upd (τ 30) 5 0)) = some (0, τ1) from b1, obd_s]
  have hcnt := cnt_rk hP
  have hrk : ∀ k, k < cq (τ 57) 256 → rk τ k < 256 ∧ τ 57 (rk τ k) = 1 ∧ cq (τ 57) (rk τ k) = k ∧ τ 17 k = nI (rk τ k) := fun k hk => by
    obtain ⟨r, hr, h1, h2⟩ := cq_kth hk
    have e : rk τ k = r := by unfold rk; rw [← h2, u5 r hr h1, nI_clamp (by omega)]
    rw [e]; exact ⟨hr, h1, h2, by rw [← h2]; exact u5 r hr h1⟩
  refine lup (fun n' (s : Hp × Int32) => f_Sh_gatherCans_L18 N 30 10 3 n' s.1 s.2) (fun i s => i ≤ cq (τ 57) 256 ∧ cnt (ob (fun k => Cn τ (rk τ k))) i ≤ 12 ∧ (Sx cSc τ s.1 ∧ s.1 30 5 = nI (cnt (ob (fun k => Cn τ (rk τ k))) i) ∧ (∀ k, k < i → Cn τ (rk τ k) → s.1 35 (cnt (ob (fun k => Cn τ (rk τ k))) k) = nI k ∧ s.1 36 (cnt (ob (fun k => Cn τ (rk τ k))) k) = nI (rk τ k) ∧ s.1 37 (cnt (ob (fun k => Cn τ (rk τ k))) k) = tl τ (rk τ k)) ∧ s.1 31 2 = nI R ∧ (∀ a, a < 8 → s.1 32 a = nI (szs (τ 12) 8 a)) ∧ ∃ M : Nat → Nat, (∀ x, x < 8 → s.1 33 x = nI (M x) ∧ M x < 256) ∧ ∀ x y, x < 8 → ((M x).testBit y = true ↔ (y = x ∨ ∃ r, r < 256 ∧ ((τ 57 r = 1 ∧ mustBy τ r) ∧ cq (τ 57) r < i) ∧ r / 32 = x ∧ r / 4 % 8 = y))) ∧ s.2 = nI i) (fun z => ∃ τ', Sx cSc τ τ' ∧ ((cnt (ob (Cn τ)) 256 ≤ 12 ∧ z = some (1, τ') ∧ τ' 30 5 = nI (cnt (ob (Cn τ)) 256) ∧ (∀ r, r < 256 → Cn τ r → τ' 35 (cnt (ob (Cn τ)) r) = nI (cq (τ 57) r) ∧ τ' 36 (cnt (ob (Cn τ)) r) = nI r ∧ τ' 37 (cnt (ob (Cn τ)) r) = tl τ r) ∧ τ' 31 2 = nI R ∧ (∀ a, a < 8 → τ' 32 a = nI (szs (τ 12) 8 a)) ∧ ∃ M : Nat → Nat, (∀ x, x < 8 → τ' 34 x = nI (M x) ∧ M x < 256) ∧ ∀ x y, x < 8 → ((M x).testBit y = true ↔ (y = x ∨ ∃ r, r < 256 ∧ (τ 57 r = 1 ∧ mustBy τ r) ∧ r / 32 = x ∧ r / 4 % 8 = y))) ∨ (12 < cnt (ob (Cn τ)) 256 ∧ z = some (0, τ')))) (cq (τ 57) 256) ?_ ?_ N 0 (τ1, 0) (Nat.zero_le _) (by omega) ⟨Nat.zero_le _, Nat.zero_le _, ⟨hs1, b2 30 5 rfl, fun k hk => absurd hk (Nat.not_lt_zero k), b3, b4, fun x => 2 ^ x, fun x hx => ⟨b5 x hx, Nat.pow_lt_pow_right (by omega) (show x < 8 from hx)⟩, fun x y hx => ?_⟩, rfl⟩
  · rintro n' ⟨υ, s2⟩ ⟨-, g0, ⟨g1, g2, g3, g4, g5, M, g6, g7⟩, g8⟩
    dsimp only at g0 g1 g2 g3 g4 g5 g6 g7 g8 ⊢
    subst g8
    rw [hcnt 256 (Nat.le_refl _)] at g0 g2
    refine ⟨cpR υ 33 34 8, g1.tr (Sx.u (fun j hj => by cases hj)), Or.inl ⟨g0, ?_, g2, fun r hr hc => ?_, g4, g5, M, fun x hx => ?_, fun x y hx => ?_⟩⟩
    · show f_Sh_gatherCans_L18b N 30 10 3 _ υ _ = _
      unfold f_Sh_gatherCans_L18b
      rw [g1 10 3 rfl, u3, if_pos (nI_le (Nat.le_refl _) (by omega)), ilet_s]
    · have hlt := cq_lt hc.1 hr
      have e : rk τ (cq (τ 57) r) = r := by unfold rk; rw [u5 r hr hc.1, nI_clamp (by omega)]
      have := g3 (cq (τ 57) r) hlt (by rw [e]; exact hc)
      rw [e, hcnt r (by omega)] at this
      exact this
    · refine ⟨?_, (g6 x hx).2⟩
      show va_cpy (υ 33) (υ 34) 0 0 8 x = _
      rw [sb_cpy0 hx]; exact (g6 x hx).1
    · rw [g7 x y hx]
      refine ⟨fun q => q.elim Or.inl (fun ⟨r, h1, ⟨h2, _⟩, h3⟩ => Or.inr ⟨r, h1, h2, h3⟩), fun q => q.elim Or.inl (fun ⟨r, h1, h2, h3⟩ => Or.inr ⟨r, h1, ⟨h2, cq_lt h2.1 h1⟩, h3⟩)⟩
  · rintro n' i ⟨υ, s2⟩ hi ⟨-, g0, ⟨g1, g2, g3, g4, g5, M, g6, g7⟩, g8⟩
    dsimp only at g0 g1 g2 g3 g4 g5 g6 g7 g8 ⊢
    subst g8
    obtain ⟨hr, h1, hk2, e17⟩ := hrk i hi
    obtain ⟨r, er⟩ : ∃ r, r = rk τ i := ⟨_, rfl⟩
    rw [← er] at hr h1 hk2 e17
    have w12 : υ 12 = τ 12 := g1.row 12 (fun _ => rfl)
    have w48 : υ 48 = τ 48 := g1.row 48 (fun _ => rfl)
    have w3 : υ 3 = τ 3 := g1.row 3 (fun _ => rfl)
    have w15 : υ 15 = τ 15 := g1.row 15 (fun _ => rfl)
    have w16 : υ 16 = τ 16 := g1.row 16 (fun _ => rfl)
    have w52 : υ 52 = τ 52 := g1.row 52 (fun _ => rfl)
    have hmb := isMustBy_y (N := N) (r := r) (τ := υ) hN hr (by rw [w3, w48]; exact hB)
    rw [By.cg w12 w48] at hmb
    by_cases q : mustBy τ r
    · have hno : ¬ Cn τ (rk τ i) := fun e => e.2 (by rw [← er]; exact q)
      refine Or.inr ⟨(upR υ 33 (upd (υ 33) (r / 32) (nI (M (r / 32) ||| 2 ^ (r / 4 % 8)))), nI (i + 1)), ?_, by omega, by rw [cn_n (P := fun k => Cn τ (rk τ k)) hno]; exact g0, ⟨g1.tr (Sx.ud rfl), by rw [cn_n (P := fun k => Cn τ (rk τ k)) hno]; exact g2, fun k hk hc => ?_, g4, g5, fun x => if x = r / 32 then M x ||| 2 ^ (r / 4 % 8) else M x, fun x hx => ?_, fun x y hx => ?_⟩, rfl⟩
      · show f_Sh_gatherCans_L18b N 30 10 3 _ υ _ = _
        unfold f_Sh_gatherCans_L18b
        rw [g1 10 3 rfl, u3, if_neg (nI_ge hi (by omega)), ogd_t _ (inb_n (by omega) (by omega)), ilet_s, nI_clamp (by omega)]
        show obd (f_Pl_isMustBy N 10 3 υ (υ 17 i)) _ = _
        rw [g1 17 i rfl, e17, hmb.1 q, obd_s, if_neg (by decide)]
        show obd (f_Sp_addRule N 31 υ (nI r)) _ = _
        rw [addRule_31 hr (g6 _ (by omega)).2 (g6 _ (by omega)).1, obd_s, ilet_s, nI_1]
      · rcases Nat.lt_or_ge k i with q2 | q2
        · exact g3 k q2 hc
        · have : k = i := by omega
          subst this; exact absurd hc hno
      · show upd (υ 33) (r / 32) (nI (M (r / 32) ||| 2 ^ (r / 4 % 8))) x = nI (if x = r / 32 then M x ||| 2 ^ (r / 4 % 8) else M x) ∧ (if x = r / 32 then M x ||| 2 ^ (r / 4 % 8) else M x) < 256
        rw [upd_at]
        by_cases q2 : x = r / 32
        · rw [if_pos q2, if_pos q2, q2]
          exact ⟨rfl, Nat.or_lt_two_pow (n := 8) (g6 _ (by omega)).2 (Nat.pow_lt_pow_right (by omega) (by omega))⟩
        · rw [if_neg q2, if_neg q2]; exact g6 x hx
      · have step : (∃ r', r' < 256 ∧ ((τ 57 r' = 1 ∧ mustBy τ r') ∧ cq (τ 57) r' < i + 1) ∧ r' / 32 = x ∧ r' / 4 % 8 = y) ↔ ((∃ r', r' < 256 ∧ ((τ 57 r' = 1 ∧ mustBy τ r') ∧ cq (τ 57) r' < i) ∧ r' / 32 = x ∧ r' / 4 % 8 = y) ∨ (x = r / 32 ∧ y = r / 4 % 8)) := by
          constructor
          · rintro ⟨r', a1, ⟨a2, a3⟩, a4, a5⟩
            rcases Nat.lt_or_ge (cq (τ 57) r') i with q | q
            · exact Or.inl ⟨r', a1, ⟨a2, q⟩, a4, a5⟩
            · have : r' = r := cq_inj a2.1 h1 (by omega)
              subst this; exact Or.inr ⟨a4.symm, a5.symm⟩
          · rintro (⟨r', a1, ⟨a2, a3⟩, a4⟩ | ⟨rfl, rfl⟩)
            · exact ⟨r', a1, ⟨a2, by omega⟩, a4⟩
            · exact ⟨r, hr, ⟨⟨h1, q⟩, by omega⟩, rfl, rfl⟩
        rw [step]
        show (if x = r / 32 then M x ||| 2 ^ (r / 4 % 8) else M x).testBit y = true ↔ _
        by_cases q2 : x = r / 32
        · rw [if_pos q2, Nat.testBit_or, Bool.or_eq_true, g7 x y hx, Nat.testBit_two_pow, decide_eq_true_eq]
          constructor
          · rintro ((a | a) | a)
            · exact Or.inl a
            · exact Or.inr (Or.inl a)
            · exact Or.inr (Or.inr ⟨q2, a.symm⟩)
          · rintro (a | (a | a))
            · exact Or.inl (Or.inl a)
            · exact Or.inl (Or.inr a)
            · exact Or.inr a.2.symm
        · rw [if_neg q2, g7 x y hx]
          constructor
          · rintro (a | a)
            · exact Or.inl a
            · exact Or.inr (Or.inl a)
          · rintro (a | (a | a))
            · exact Or.inl a
            · exact Or.inr a
            · exact absurd a.1 q2
    · have hcn : Cn τ (rk τ i) := by rw [← er]; exact ⟨h1, q⟩
      have e0 : f_Sh_gatherCans_L18 N 30 10 3 (n' + 1) υ (nI i) = if nI (cnt (ob (fun k => Cn τ (rk τ k))) i) < 12 then ogd (inb (nI (cnt (ob (fun k => Cn τ (rk τ k))) i)) 12) (ilet (upR υ 35 (upd (υ 35) (Int32.toNatClampNeg (nI (cnt (ob (fun k => Cn τ (rk τ k))) i))) (nI i))) fun τ5 => ogd (inb (τ5 30 5) 12) (ilet (upR τ5 36 (upd (τ5 36) (Int32.toNatClampNeg (τ5 30 5)) (nI r))) fun τ6 => obd (f_Pl_weightBy N 10 τ6 (nI r) 1) fun r7 τ8 => ogd (inb (τ6 30 5) 12) (ilet (upR τ8 37 (upd (τ8 37) (Int32.toNatClampNeg (τ6 30 5)) r7)) fun τ9 => ilet (upR τ9 30 (upd (τ9 30) 5 ((τ9 30 5) + 1))) fun τ10 => ilet (nI i + 1) fun x11 => f_Sh_gatherCans_L18 N 30 10 3 n' τ10 x11))) else some (0, υ) := by
        show f_Sh_gatherCans_L18b N 30 10 3 _ υ _ = _
        unfold f_Sh_gatherCans_L18b
        rw [g1 10 3 rfl, u3, if_neg (nI_ge hi (by omega)), ogd_t _ (inb_n (by omega) (by omega)), ilet_s, nI_clamp (by omega)]
        show obd (f_Pl_isMustBy N 10 3 υ (υ 17 i)) _ = _
        rw [g1 17 i rfl, e17, hmb.2 q, obd_s, if_pos rfl, g2]
      rw [e0]
      by_cases q12 : cnt (ob (fun k => Cn τ (rk τ k))) i < 12
      · rw [if_pos (show nI _ < 12 from nI_lt (b := 12) q12 (by omega)), ogd_t _ (inb_n q12 (by omega)), ilet_s, nI_clamp (by omega)]
        obtain ⟨c, ec⟩ : ∃ c, c = cnt (ob (fun k => Cn τ (rk τ k))) i := ⟨_, rfl⟩
        rw [← ec] at q12 g2 ⊢
        have hw : f_Pl_weightBy N 10 (upR (upR υ 35 (upd (υ 35) c (nI i))) 36 (upd (υ 36) c (nI r))) (nI r) 1 = some (tl τ r, upR (upR υ 35 (upd (υ 35) c (nI i))) 36 (upd (υ 36) c (nI r))) := by
          rw [weightBy_y (τ := upR (upR υ 35 (upd (υ 35) c (nI i))) 36 (upd (υ 36) c (nI r))) hN hr (by show RB (υ 15) (υ 52); rw [w15, w52]; exact p8)]
          show some (tl (upR (upR υ 35 (upd (υ 35) c (nI i))) 36 (upd (υ 36) c (nI r))) r, _) = _
          rw [gB_cg (τ := τ) (τ' := upR (upR υ 35 (upd (υ 35) c (nI i))) 36 (upd (υ 36) c (nI r))) w12 w52 w16]
        have e5 : (ogd (inb (upR υ 35 (upd (υ 35) c (nI i)) 30 5) 12) (ilet (upR (upR υ 35 (upd (υ 35) c (nI i))) 36 (upd (upR υ 35 (upd (υ 35) c (nI i)) 36) (Int32.toNatClampNeg (upR υ 35 (upd (υ 35) c (nI i)) 30 5)) (nI r))) fun τ6 => obd (f_Pl_weightBy N 10 τ6 (nI r) 1) fun r7 τ8 => ogd (inb (τ6 30 5) 12) (ilet (upR τ8 37 (upd (τ8 37) (Int32.toNatClampNeg (τ6 30 5)) r7)) fun τ9 => ilet (upR τ9 30 (upd (τ9 30) 5 ((τ9 30 5) + 1))) fun τ10 => ilet (nI i + 1) fun x11 => f_Sh_gatherCans_L18 N 30 10 3 n' τ10 x11))) = f_Sh_gatherCans_L18 N 30 10 3 n' (upR (upR (upR (upR υ 35 (upd (υ 35) c (nI i))) 36 (upd (υ 36) c (nI r))) 37 (upd (υ 37) c (tl τ r))) 30 (upd (υ 30) 5 (nI (c + 1)))) (nI (i + 1)) := by
          show ogd (inb (υ 30 5) 12) (ilet (upR (upR υ 35 (upd (υ 35) c (nI i))) 36 (upd (υ 36) (Int32.toNatClampNeg (υ 30 5)) (nI r))) _) = _
          rw [g2, ogd_t _ (inb_n q12 (by omega)), nI_clamp (by omega), ilet_s, hw, obd_s]
          show ogd (inb (υ 30 5) 12) (ilet (upR (upR (upR υ 35 (upd (υ 35) c (nI i))) 36 (upd (υ 36) c (nI r))) 37 (upd (υ 37) (Int32.toNatClampNeg (υ 30 5)) (tl τ r))) _) = _
          rw [g2, ogd_t _ (inb_n q12 (by omega)), nI_clamp (by omega), ilet_s, ilet_s, ilet_s, nI_1]
          show f_Sh_gatherCans_L18 N 30 10 3 n' (upR _ 30 (upd (υ 30) 5 (υ 30 5 + 1))) _ = _
          rw [g2, nI_1]
        rw [e5]
        refine Or.inr ⟨(_, nI (i + 1)), rfl, by omega, by rw [cn_y (P := fun k => Cn τ (rk τ k)) hcn]; omega, ⟨(((g1.tr (Sx.ud rfl)).tr (Sx.ud rfl)).tr (Sx.ud rfl)).tr (Sx.ud rfl), by rw [cn_y (P := fun k => Cn τ (rk τ k)) hcn, ← ec]; rfl, fun k hk hc => ?_, g4, g5, M, g6, fun x y hx => ?_⟩, rfl⟩
        · show upd (υ 35) c (nI i) (cnt (ob (fun k => Cn τ (rk τ k))) k) = nI k ∧ upd (υ 36) c (nI r) (cnt (ob (fun k => Cn τ (rk τ k))) k) = nI (rk τ k) ∧ upd (υ 37) c (tl τ r) (cnt (ob (fun k => Cn τ (rk τ k))) k) = tl τ (rk τ k)
          rcases Nat.lt_or_ge k i with q2 | q2
          · have := cn_lt (P := fun k => Cn τ (rk τ k)) hc q2
            rw [upd_at, upd_at, upd_at, if_neg (by omega), if_neg (by omega), if_neg (by omega)]
            exact g3 k q2 hc
          · have : k = i := by omega
            subst this
            rw [← ec, upd_eq, upd_eq, upd_eq, er]; exact ⟨rfl, rfl, rfl⟩
        · rw [g7 x y hx]
          refine ⟨fun q => q.elim Or.inl (fun ⟨r, h1, ⟨h2, h3⟩, h4⟩ => Or.inr ⟨r, h1, ⟨h2, by omega⟩, h4⟩), fun q5 => q5.elim Or.inl (fun ⟨r', h1', ⟨h2, h3⟩, h4⟩ => Or.inr ⟨r', h1', ⟨h2, ?_⟩, h4⟩)⟩
          rcases Nat.lt_or_ge (cq (τ 57) r') i with q6 | q6
          · exact q6
          · have : r' = r := cq_inj h2.1 h1 (by omega)
            subst this; exact absurd h2.2 q
      · refine Or.inl ⟨υ, g1, Or.inr ⟨?_, ?_⟩⟩
        · have h13 : cnt (ob (fun k => Cn τ (rk τ k))) (i + 1) = 13 := by
            rw [cn_y (P := fun k => Cn τ (rk τ k)) hcn]; omega
          have hm := cn_mono (ob (fun k => Cn τ (rk τ k))) (cq (τ 57) 256) (show i + 1 ≤ cq (τ 57) 256 from hi)
          rw [hcnt 256 (Nat.le_refl _)] at hm; omega
        · rw [if_neg (show ¬ nI _ < 12 from nI_nlt (b := 12) (by omega) (by omega))]
  · show (2 ^ x).testBit y = true ↔ _
    rw [Nat.testBit_two_pow]
    refine ⟨fun q => Or.inl ((of_decide_eq_true q).symm), fun q => ?_⟩
    rcases q with q | ⟨r, _, ⟨_, q⟩, _⟩
    · exact decide_eq_true q.symm
    · exact absurd q (Nat.not_lt_zero _)
