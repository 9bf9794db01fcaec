noncomputable def vR (τ : Hp) (P : Nat → Prop) (a : Nat) : Nat := cnt (ob (fun j => ∃ y, y < 8 ∧ τ 12 j = nI y ∧ Rch P a y)) 8
theorem hcm_vR {τ : Hp} {P : Nat → Prop} {a m : Nat} (hv : RV (τ 12)) (h : ∀ y, m.testBit y = true ↔ Rch P a y) : hcm (τ 12) m 8 = vR τ P a := cnt_ext 8 (fun j hj => by
  rcases hv j hj with q | ⟨b, hb, q⟩
  · rw [ob_f (P := fun j => ∃ y, y < 8 ∧ τ 12 j = nI y ∧ Rch P a y) (fun ⟨y, h1, h2, _⟩ => nm1_ne' (by omega) (q.symm.trans h2))]
    unfold hcb; rw [q]; rfl
  · unfold hcb
    rw [q, nI_clamp (by omega), show (nI b == (-1)) = false from beq_eq_false_iff_ne.mpr (nm1_ne (by omega))]
    by_cases q2 : Rch P a b
    · rw [(h b).mpr q2, ob_t (P := fun j => ∃ y, y < 8 ∧ τ 12 j = nI y ∧ Rch P a y) ⟨b, hb, q, q2⟩]; rfl
    · rw [ob_f (P := fun j => ∃ y, y < 8 ∧ τ 12 j = nI y ∧ Rch P a y) (fun ⟨y, h1, h2, h3⟩ => q2 (by
        have := (nI_eq (by omega) (by omega)).mp (q.symm.trans h2)
        rw [this]; exact h3)), show m.testBit b = false from Bool.eq_false_iff.mpr (fun e => q2 ((h b).mp e))]; rfl)
theorem cnt_le_of {p q : Nat → Bool} : ∀ n, (∀ k, k < n → p k = true → q k = true) → cnt p n ≤ cnt q n
  | 0, _ => Nat.le_refl _
  | n + 1, h => by
    have h1 := cnt_le_of n (fun k hk => h k (by omega))
    rw [cnt, cnt]
    by_cases q1 : p n = true
    · rw [if_pos q1, if_pos (h n (by omega) q1)]; omega
    · rw [if_neg q1]; omega
theorem vR_mono {τ : Hp} {P P' : Nat → Prop} {a : Nat} (h : ∀ r, r < 256 → P r → P' r) : vR τ P a ≤ vR τ P' a := cnt_le_of 8 (fun k _ hk => by
  obtain ⟨y, h1, h2, h3⟩ := ob_p hk
  exact ob_t (P := fun j => ∃ y, y < 8 ∧ τ 12 j = nI y ∧ Rch P' a y) ⟨y, h1, h2, fun S s1 s2 => h3 S s1 (fun r hr hp => s2 r hr (h r hr hp))⟩)
theorem vR_le {τ : Hp} {P : Nat → Prop} {a : Nat} : vR τ P a ≤ 8 := cn_le _ 8
theorem mxv_mono {v v' : Nat → Nat} : ∀ k, (∀ j, j < k → v j ≤ v' j) → mxv v k ≤ mxv v' k
  | 0, _ => Nat.le_refl _
  | k + 1, h => by
    have h1 := mxv_mono k (fun j hj => h j (by omega))
    have h2 := h k (by omega)
    rw [mxv, mxv]; omega
def sN (g : Nat → Nat) : Nat → Nat
  | 0 => 0
  | n + 1 => sN g n + g n
theorem sI_nI {g : Nat → Int32} {h : Nat → Nat} : ∀ n, (∀ k, k < n → g k = nI (h k)) → sI g n = nI (sN h n)
  | 0, _ => rfl
  | n + 1, q => by rw [sI, sN, sI_nI n (fun k hk => q k (by omega)), q n (by omega), nI_add]
theorem sN_le {h : Nat → Nat} {B : Nat} : ∀ n, (∀ k, k < n → h k ≤ B) → sN h n ≤ n * B
  | 0, _ => Nat.zero_le _
  | n + 1, q => by
    have h1 := sN_le n (fun k hk => q k (by omega))
    have h2 := q n (by omega)
    rw [sN, Nat.succ_mul]; omega
theorem sN_ge {h : Nat → Nat} {k : Nat} : ∀ n, k < n → h k ≤ sN h n
  | n + 1, q => by
    rw [sN]
    rcases Nat.lt_or_ge k n with q2 | q2
    · have := sN_ge (h := h) n q2; omega
    · have : k = n := by omega
      subst this; omega
theorem imax_1 {x : Nat} (h : x < 2 ^ 31) : imax 1 (nI x) = nI (max 1 x) := by
  unfold imax
  rcases Nat.lt_or_ge 1 x with q | q
  · rw [if_pos (show (1 : Int32) < nI x from nI_lt (a := 1) q h), Nat.max_eq_right (by omega)]
  · rw [if_neg (show ¬ (1 : Int32) < nI x from nI_nlt (a := 1) q (by omega)), Nat.max_eq_left q]; rfl
theorem tl_nat {τ : Hp} {n mk R r : Nat} (hn : n ≤ 8) (hP : IvP τ n mk R) (hr : r < 256) (h1 : τ 57 r = 1) : ∃ T, tl τ r = nI T ∧ 1 ≤ T ∧ T ≤ 19180800 := by
  obtain ⟨p1, p2, p3, p4, p5, p6, p7, p8, p9, p10, p11⟩ := hP
  have hg : ∀ a, a < 8 → ∀ b, b < 8 → ∃ x, x ≤ 299700 ∧ gB τ r (fun w => imax 1 (τ 16 w)) a b = nI x ∧ ((τ 12 a = nI (r / 32) ∧ τ 12 b = nI (r / 4 % 8)) ∧ τ 52 (32 * a + 4 * b + r % 4) = 1 → 1 ≤ x) := by
    intro a ha b hb
    obtain ⟨x, hx, e1, e2⟩ := p9 (32 * a + 4 * b + r % 4) (by omega)
    unfold gB
    by_cases q : (τ 12 a = nI (r / 32) ∧ τ 12 b = nI (r / 4 % 8)) ∧ τ 52 (32 * a + 4 * b + r % 4) = 1
    · rw [if_pos q]
      refine ⟨max 1 x, by omega, ?_, fun _ => by omega⟩
      show imax 1 (τ 16 _) = _
      rw [e1, imax_1 (by omega)]
    · rw [if_neg q]; exact ⟨0, by omega, rfl, fun e => absurd e q⟩
  have hcl : ∀ a, a < 8 → ∀ b, b < 8 → gB τ r (fun w => imax 1 (τ 16 w)) a b = nI (gB τ r (fun w => imax 1 (τ 16 w)) a b).toNatClampNeg ∧ (gB τ r (fun w => imax 1 (τ 16 w)) a b).toNatClampNeg ≤ 299700 ∧ ((τ 12 a = nI (r / 32) ∧ τ 12 b = nI (r / 4 % 8)) ∧ τ 52 (32 * a + 4 * b + r % 4) = 1 → 1 ≤ (gB τ r (fun w => imax 1 (τ 16 w)) a b).toNatClampNeg) := by
    intro a ha b hb
    obtain ⟨x, hx, e, h3⟩ := hg a ha b hb
    rw [e, nI_clamp (by omega)]; exact ⟨rfl, hx, h3⟩
  have e : tl τ r = nI (sN (fun a => sN (fun b => (gB τ r (fun w => imax 1 (τ 16 w)) a b).toNatClampNeg) 8) 8) := sI_nI 8 (fun a ha => sI_nI 8 (fun b hb => (hcl a ha b hb).1))
  refine ⟨_, e, ?_, ?_⟩
  · obtain ⟨w, hw, d1, d2, d3, d4⟩ := p10 r hr h1
    have h5 := (hcl (w / 32) (by omega) (w / 4 % 8) (by omega)).2.2 ⟨⟨d2, d3⟩, by rw [show 32 * (w / 32) + 4 * (w / 4 % 8) + r % 4 = w by omega]; exact d1⟩
    have h6 := sN_ge (h := fun b => (gB τ r (fun w => imax 1 (τ 16 w)) (w / 32) b).toNatClampNeg) (k := w / 4 % 8) 8 (by omega)
    have h7 := sN_ge (h := fun a => sN (fun b => (gB τ r (fun w => imax 1 (τ 16 w)) a b).toNatClampNeg) 8) (k := w / 32) 8 (by omega)
    exact Nat.le_trans h5 (Nat.le_trans h6 h7)
  · have := sN_le (h := fun a => sN (fun b => (gB τ r (fun w => imax 1 (τ 16 w)) a b).toNatClampNeg) 8) (B := 2397600) 8 (fun a ha => by
      have := sN_le (h := fun b => (gB τ r (fun w => imax 1 (τ 16 w)) a b).toNatClampNeg) (B := 299700) 8 (fun b hb => (hcl a ha b hb).2.1)
      omega)
    omega
/-- the rules to shut as they are gathered -/
def Gt (τ υ : Hp) (R c : Nat) (T : Nat → Nat) : Prop := υ 30 5 = nI c ∧ c ≤ 12 ∧ c = cnt (ob (Cn τ)) 256 ∧ (∀ r, r < 256 → Cn τ r → υ 35 (cnt (ob (Cn τ)) r) = nI (cq (τ 57) r) ∧ υ 36 (cnt (ob (Cn τ)) r) = nI r) ∧ (∀ i, i < c → υ 37 i = nI (T i) ∧ 1 ≤ T i ∧ T i ≤ 19180800) ∧ υ 31 2 = nI R ∧ (∀ a, a < 8 → υ 32 a = nI (szs (τ 12) 8 a)) ∧ ∃ M : Nat → Nat, (∀ x, x < 8 → υ 34 x = nI (M x) ∧ M x < 256) ∧ ∀ x y, x < 8 → ((M x).testBit y = true ↔ (y = x ∨ ∃ r, r < 256 ∧ (τ 57 r = 1 ∧ mustBy τ r) ∧ r / 32 = x ∧ r / 4 % 8 = y))
theorem Gt.u33 {τ υ : Hp} {R c : Nat} {T : Nat → Nat} (h : Gt τ υ R c T) (ρ : Nat → Int32) : Gt τ (upR υ 33 ρ) R c T := h
theorem ss_bd {x : Nat} {T : Nat → Nat} {B : Nat} : ∀ c, (∀ i, i < c → T i ≤ B) → ss x T c ≤ c * B
  | 0, _ => Nat.zero_le _
  | c + 1, h => by
    have h1 := ss_bd (x := x) c (fun i hi => h i (by omega))
    have h2 := h c (by omega)
    rw [ss, Nat.succ_mul]
    by_cases q : x.testBit c = true
    · rw [if_pos q]; omega
    · rw [if_neg q]; omega
theorem toll_y {N R c x : Nat} {τ υ : Hp} {T : Nat → Nat} (hN : 1000 ≤ N) (hG : Gt τ υ R c T) (hx : x < 2 ^ 20) : f_Sh_tollOf N 30 υ (nI x) = some (nI (ss x T c), υ) := by
  obtain ⟨h1, h2, h3, h4, h5, h6⟩ := hG
  unfold f_Sh_tollOf
  refine lup (fun n (s : Int32 × Int32) => f_Sh_tollOf_L4 N 30 n υ (nI x) s.1 s.2) (fun i s => s.1 = nI (ss x T i) ∧ s.2 = nI i) (fun z => z = some (nI (ss x T c), υ)) c ?_ ?_ N 0 (0, 0) (Nat.zero_le _) (by omega) ⟨rfl, rfl⟩
  · rintro n ⟨s1, s2⟩ ⟨g1, g2⟩
    dsimp only at g1 g2 ⊢
    subst g1; subst g2
    show f_Sh_tollOf_L4b N 30 _ υ _ _ _ = _
    unfold f_Sh_tollOf_L4b
    rw [h1, if_pos (nI_le (Nat.le_refl _) (by omega))]
  · rintro n i ⟨s1, s2⟩ hi ⟨g1, g2⟩
    dsimp only at g1 g2 ⊢
    subst g1; subst g2
    refine Or.inr ⟨(nI (ss x T (i + 1)), nI (i + 1)), ?_, rfl, rfl⟩
    show f_Sh_tollOf_L4b N 30 _ υ _ _ _ = _
    unfold f_Sh_tollOf_L4b
    rw [h1, if_neg (nI_ge hi (by omega))]
    by_cases q : x.testBit i = true
    · rw [if_pos ((bt12 hx (by omega)).1.mpr q), ogd_t _ (inb_n (i := i) (by omega) (by omega)), ilet_s, ilet_s, nI_1, nI_clamp (by omega)]
      show f_Sh_tollOf_L4 N 30 n υ (nI x) (nI (ss x T i) + υ 37 i) _ = _
      rw [(h5 i hi).1, nI_add, ss, if_pos q]
    · rw [if_neg (fun e => q ((bt12 hx (by omega)).1.mp e)), ilet_s, nI_1, ss, if_neg q]; rfl
theorem ww_y {N n R c x : Nat} {τ υ : Hp} {T : Nat → Nat} (hN : 1000 ≤ N) (hP : IvP τ n 1 R) (hG : Gt τ υ R c T) (hx : x < 2 ^ 20) : ∃ ρ, f_Sh_widestWithout N 30 υ (nI x) = some (nI (mxv (vR τ (Px τ x)) R) - 1, upR υ 33 ρ) := by
  obtain ⟨h1, h2, h3, h4, h5, h6, h7, M0, h8, h9⟩ := hG
  obtain ⟨p1, p2, p3, p4, p5, p6, ⟨u1, u2, u3, u4, u5, u6⟩, p8⟩ := hP
  have hR := p6.1
  unfold f_Sh_widestWithout
  rw [ilet_s, show cpR υ (30 + 4) (30 + 3) 8 = upR υ 33 (va_cpy (υ 34) (υ 33) 0 0 8) from rfl]
  refine lup (fun n' (s : (Nat → Int32) × Int32) => f_Sh_widestWithout_L20 N 30 n' (upR υ 33 s.1) (nI x) s.2) (fun i s => (∃ M : Nat → Nat, (∀ a, a < 8 → s.1 a = nI (M a) ∧ M a < 256) ∧ ∀ a y, a < 8 → ((M a).testBit y = true ↔ (y = a ∨ ∃ r, r < 256 ∧ (τ 57 r = 1 ∧ (mustBy τ r ∨ (Cn τ r ∧ cnt (ob (Cn τ)) r < i ∧ ¬ x.testBit (cnt (ob (Cn τ)) r) = true))) ∧ r / 32 = a ∧ r / 4 % 8 = y))) ∧ s.2 = nI i) (fun z => ∃ ρ, z = some (nI (mxv (vR τ (Px τ x)) R) - 1, upR υ 33 ρ)) c ?_ ?_ N 0 (va_cpy (υ 34) (υ 33) 0 0 8, 0) (Nat.zero_le _) (by omega) ⟨⟨M0, fun a ha => ⟨by show va_cpy (υ 34) (υ 33) 0 0 8 a = nI (M0 a); rw [sb_cpy0 ha]; exact (h8 a ha).1, (h8 a ha).2⟩, fun a y ha => ?_⟩, rfl⟩
  · rintro n' ⟨ρ, s2⟩ ⟨⟨M, g1, g2⟩, g3⟩
    dsimp only at g1 g2 g3 ⊢
    subst g3
    obtain ⟨ρ', c1, c2⟩ := chain_31 (N := N) (τ := upR υ 33 ρ) (M := M) hN hR h6 g1
    rw [upR_2] at c1
    have hlt := ch_lt (R := R) (fun a ha => (g1 a ha).2) hR R (Nat.le_refl _)
    have hend : ∀ a y, a < R → ((chM R M R a).testBit y = true ↔ Rch (Px τ x) a y) := fun a y ha => by
      refine ch_end (P := Px τ x) (fun a y ha => ?_) (fun r hr hp => ⟨(u2 r hr hp.1).1, (u2 r hr hp.1).2.1⟩) ha
      rw [g2 a y (by omega)]
      constructor
      · rintro (q | ⟨r, a1, ⟨a2, a3⟩, a4⟩)
        · exact Or.inl q
        · refine Or.inr ⟨r, a1, ⟨a2, ?_⟩, a4⟩
          rcases a3 with a3 | ⟨a3, _, a5⟩
          · exact fun e => e.1.2 a3
          · exact fun e => a5 e.2
      · rintro (q | ⟨r, a1, ⟨a2, a3⟩, a4⟩)
        · exact Or.inl q
        · refine Or.inr ⟨r, a1, ⟨a2, ?_⟩, a4⟩
          by_cases q : mustBy τ r
          · exact Or.inl q
          · have hc : Cn τ r := ⟨a2, q⟩
            exact Or.inr ⟨hc, by rw [h3]; exact cn_lt hc a1, fun e => a3 ⟨hc, e⟩⟩
    refine ⟨ρ', ?_⟩
    show f_Sh_widestWithout_L20b N 30 _ (upR υ 33 ρ) _ _ = _
    unfold f_Sh_widestWithout_L20b
    show (if υ 30 5 ≤ nI c then obd (f_Sp_chain N 31 (upR υ 33 ρ)) _ else _) = _
    rw [h1, if_pos (nI_le (Nat.le_refl _) (by omega)), c1, obd_s]
    show obd (f_Sp_widest N 31 (upR υ 33 ρ')) _ = _
    rw [widest_31 (N := N) (τ := upR υ 33 ρ') (v := vR τ (Px τ x)) hN hR h6 (fun a ha => ⟨by have := vR_le (τ := τ) (P := Px τ x) (a := a); omega, by
      rw [others_31 (N := N) (τ := upR υ 33 ρ') (m := chM R M R a) hN hR (by omega) h6 (hlt a (by omega)) (c2 a (by omega)) h7, ss_hc hR 8 p6.b, hcm_vR p6.rv (fun y => hend a y ha)]⟩), obd_s]
  · rintro n' i ⟨ρ, s2⟩ hi ⟨⟨M, g1, g2⟩, g3⟩
    dsimp only at g1 g2 g3 ⊢
    subst g3
    obtain ⟨r, hr, hc, hci⟩ := cn_kth (P := Cn τ) (j := i) (n := 256) (by omega)
    refine Or.inr ?_
    show ∃ s' : (Nat → Int32) × Int32, f_Sh_widestWithout_L20b N 30 _ (upR υ 33 ρ) _ _ = _ ∧ _
    unfold f_Sh_widestWithout_L20b
    show ∃ s' : (Nat → Int32) × Int32, (if υ 30 5 ≤ nI i then _ else (if ((nI x >>> (nI i &&& 31)) &&& 1) = 0 then ogd (inb (nI i) 12) (obd (f_Sp_addRule N 31 (upR υ 33 ρ) (υ 36 (Int32.toNatClampNeg (nI i)))) _) else _)) = _ ∧ _
    rw [h1, if_neg (nI_ge hi (by omega))]
    by_cases q : x.testBit i = true
    · rw [if_neg (fun e => ((bt12 hx (by omega)).2.mp e) q), ilet_s, nI_1]
      refine ⟨(ρ, nI (i + 1)), rfl, ⟨M, g1, fun a y ha => ?_⟩, rfl⟩
      rw [g2 a y ha]
      refine ⟨fun q5 => q5.elim Or.inl (fun ⟨r', a1, ⟨a2, a3⟩, a4⟩ => Or.inr ⟨r', a1, ⟨a2, a3.imp id (fun ⟨b1, b2, b3⟩ => ⟨b1, by omega, b3⟩)⟩, a4⟩), fun q5 => q5.elim Or.inl (fun ⟨r', a1, ⟨a2, a3⟩, a4⟩ => Or.inr ⟨r', a1, ⟨a2, a3.imp id (fun ⟨b1, b2, b3⟩ => ⟨b1, ?_, b3⟩)⟩, a4⟩)⟩
      rcases Nat.lt_or_ge (cnt (ob (Cn τ)) r') i with q6 | q6
      · exact q6
      · have : cnt (ob (Cn τ)) r' = i := by omega
        rw [this] at b3; exact absurd q b3
    · rw [if_pos ((bt12 hx (by omega)).2.mpr q), ogd_t _ (inb_n (i := i) (by omega) (by omega)), nI_clamp (by omega)]
      have e36 : υ 36 i = nI r := by rw [← hci]; exact (h4 r hr hc).2
      rw [e36, addRule_31 (τ := upR υ 33 ρ) hr (g1 _ (by omega)).2 (g1 (r / 32) (by omega)).1, obd_s, ilet_s, nI_1, upR_2]
      refine ⟨(upd ρ (r / 32) (nI (M (r / 32) ||| 2 ^ (r / 4 % 8))), nI (i + 1)), rfl, ⟨fun a => if a = r / 32 then M a ||| 2 ^ (r / 4 % 8) else M a, fun a ha => ?_, fun a y ha => ?_⟩, rfl⟩
      · show upd ρ (r / 32) (nI (M (r / 32) ||| 2 ^ (r / 4 % 8))) a = nI (if a = r / 32 then M a ||| 2 ^ (r / 4 % 8) else M a) ∧ (if a = r / 32 then M a ||| 2 ^ (r / 4 % 8) else M a) < 256
        rw [upd_at]
        by_cases q2 : a = r / 32
        · rw [if_pos q2, if_pos q2, q2]
          exact ⟨rfl, Nat.or_lt_two_pow (n := 8) (g1 _ (by omega)).2 (Nat.pow_lt_pow_right (by omega) (by omega))⟩
        · rw [if_neg q2, if_neg q2]; exact g1 a ha
      · have step : (∃ r', r' < 256 ∧ (τ 57 r' = 1 ∧ (mustBy τ r' ∨ (Cn τ r' ∧ cnt (ob (Cn τ)) r' < i + 1 ∧ ¬ x.testBit (cnt (ob (Cn τ)) r') = true))) ∧ r' / 32 = a ∧ r' / 4 % 8 = y) ↔ ((∃ r', r' < 256 ∧ (τ 57 r' = 1 ∧ (mustBy τ r' ∨ (Cn τ r' ∧ cnt (ob (Cn τ)) r' < i ∧ ¬ x.testBit (cnt (ob (Cn τ)) r') = true))) ∧ r' / 32 = a ∧ r' / 4 % 8 = y) ∨ (a = r / 32 ∧ y = r / 4 % 8)) := by
          constructor
          · rintro ⟨r', a1, ⟨a2, a3⟩, a4, a5⟩
            rcases a3 with a3 | ⟨b1, b2, b3⟩
            · exact Or.inl ⟨r', a1, ⟨a2, Or.inl a3⟩, a4, a5⟩
            · rcases Nat.lt_or_ge (cnt (ob (Cn τ)) r') i with q6 | q6
              · exact Or.inl ⟨r', a1, ⟨a2, Or.inr ⟨b1, q6, b3⟩⟩, a4, a5⟩
              · have : r' = r := by
                  rcases Nat.lt_trichotomy r' r with q7 | q7 | q7
                  · have := cn_lt (P := Cn τ) b1 q7; omega
                  · exact q7
                  · have := cn_lt (P := Cn τ) hc q7; omega
                subst this; exact Or.inr ⟨a4.symm, a5.symm⟩
          · rintro (⟨r', a1, ⟨a2, a3⟩, a4⟩ | ⟨rfl, rfl⟩)
            · exact ⟨r', a1, ⟨a2, a3.imp id (fun ⟨b1, b2, b3⟩ => ⟨b1, by omega, b3⟩)⟩, a4⟩
            · exact ⟨r, hr, ⟨hc.1, Or.inr ⟨hc, by omega, by rw [hci]; exact q⟩⟩, rfl, rfl⟩
        rw [step]
        show (if a = r / 32 then M a ||| 2 ^ (r / 4 % 8) else M a).testBit y = true ↔ _
        by_cases q2 : a = r / 32
        · rw [if_pos q2, Nat.testBit_or, Bool.or_eq_true, g2 a y ha, Nat.testBit_two_pow, decide_eq_true_eq]
          constructor
          · rintro ((a | a) | a)
            · exact Or.inl a
            · exact Or.inr (Or.inl a)
            · exact Or.inr (Or.inr ⟨q2, a.symm⟩)
          · rintro (a | (a | a))
            · exact Or.inl (Or.inl a)
            · exact Or.inl (Or.inr a)
            · exact Or.inr a.2.symm
        · rw [if_neg q2, g2 a y ha]
          constructor
          · rintro (a | a)
            · exact Or.inl a
            · exact Or.inr (Or.inl a)
          · rintro (a | (a | a))
            · exact Or.inl a
            · exact Or.inr a
            · exact absurd a.1 q2
  · rw [h9 a y ha]
    refine ⟨fun q5 => q5.elim Or.inl (fun ⟨r', a1, ⟨a2, a3⟩, a4⟩ => Or.inr ⟨r', a1, ⟨a2, Or.inl a3⟩, a4⟩), fun q5 => q5.elim Or.inl (fun ⟨r', a1, ⟨a2, a3⟩, a4⟩ => Or.inr ⟨r', a1, ⟨a2, a3.elim id (fun e => absurd e.2.1 (Nat.not_lt_zero _))⟩, a4⟩)⟩
