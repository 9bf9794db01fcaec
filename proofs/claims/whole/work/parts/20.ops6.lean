theorem follow_y {N n mk R : Nat} {τ : Hp} (hN : 1000 ≤ N) (hn : n ≤ 8) (hP : IvP τ n mk R) : ∃ τ', f_Sp_follow N 27 10 τ = some (0, τ') ∧ Sx cs27 τ τ' ∧ τ' 27 2 = nI R ∧ (∀ a, a < 8 → τ' 28 a = nI (szs (τ 12) 8 a)) ∧ ∃ m : Nat → Nat, (∀ x, x < 8 → τ' 29 x = nI (m x) ∧ m x < 256) ∧ ∀ x y, x < R → ((m x).testBit y = true ↔ Rch (fun r => τ 57 r = 1) x y) := by
  obtain ⟨p1, p2, p3, p4, p5, p6, ⟨u1, u2, u3, u4, u5, u6⟩, p8⟩ := hP
  have hR := p6.1
  unfold f_Sp_follow
  obtain ⟨τ1, b1, b2, b3, b4, b5⟩ := begin_27 (N := N) hN hn p6
  rw [show f_Sp_begin N 27 (10 + 1) τ = some (0, τ1) from b1, obd_s]
  refine lup (fun n (s : Hp × Int32) => f_Sp_follow_L10 N 27 10 n s.1 s.2) (fun k s => (Sx cs27 τ s.1 ∧ s.1 27 2 = nI R ∧ (∀ a, a < 8 → s.1 28 a = nI (szs (τ 12) 8 a)) ∧ ∃ M : Nat → Nat, (∀ x, x < 8 → s.1 29 x = nI (M x) ∧ M x < 256) ∧ ∀ x y, x < 8 → ((M x).testBit y = true ↔ (y = x ∨ ∃ r, r < 256 ∧ (τ 57 r = 1 ∧ cq (τ 57) r < k) ∧ r / 32 = x ∧ r / 4 % 8 = y))) ∧ s.2 = nI k) (fun z => ∃ τ', z = some (0, τ') ∧ Sx cs27 τ τ' ∧ τ' 27 2 = nI R ∧ (∀ a, a < 8 → τ' 28 a = nI (szs (τ 12) 8 a)) ∧ ∃ m : Nat → Nat, (∀ x, x < 8 → τ' 29 x = nI (m x) ∧ m x < 256) ∧ ∀ x y, x < R → ((m x).testBit y = true ↔ Rch (fun r => τ 57 r = 1) x y)) (cq (τ 57) 256) ?_ ?_ N 0 (τ1, 0) (Nat.zero_le _) (by omega) ⟨⟨b2, b3, b4, fun x => 2 ^ x, fun x hx => ⟨b5 x hx, Nat.pow_lt_pow_right (by omega) (show x < 8 from hx)⟩, fun x y hx => ?_⟩, rfl⟩
  · rintro k ⟨υ, s2⟩ ⟨⟨g1, g2, g3, M, g4, g5⟩, g6⟩
    dsimp only at g1 g2 g3 g4 g5 g6 ⊢
    subst g6
    obtain ⟨ρ, c1, c2⟩ := chain_27 (N := N) hN hR g2 g4
    refine ⟨upR υ 29 ρ, ?_, g1.tr (Sx.u (fun j hj => by cases hj)), g2, g3, chM R M R, fun x hx => ⟨c2 x hx, ch_lt (fun x hx => (g4 x hx).2) hR R (Nat.le_refl _) x hx⟩, fun x y hx => ?_⟩
    · show f_Sp_follow_L10b N 27 10 _ υ _ = _
      unfold f_Sp_follow_L10b
      rw [g1 10 3 rfl, u3, if_pos (nI_le (Nat.le_refl _) (by omega)), c1, obd_s]
    · refine ch_end (P := fun r => τ 57 r = 1) (fun x y hx => ?_) (fun r hr hp => ⟨(u2 r hr hp).1, (u2 r hr hp).2.1⟩) hx
      rw [g5 x y (by omega)]
      refine ⟨fun q => q.elim Or.inl (fun ⟨r, h1, ⟨h2, _⟩, h3⟩ => Or.inr ⟨r, h1, h2, h3⟩), fun q => q.elim Or.inl (fun ⟨r, h1, h2, h3⟩ => Or.inr ⟨r, h1, ⟨h2, cq_lt h2 h1⟩, h3⟩)⟩
  · rintro n k ⟨υ, s2⟩ hk ⟨⟨g1, g2, g3, M, g4, g5⟩, g6⟩
    dsimp only at g1 g2 g3 g4 g5 g6 ⊢
    subst g6
    obtain ⟨r, hr, h1, hkr⟩ := cq_kth hk
    refine Or.inr ⟨(upR υ 29 (upd (υ 29) (r / 32) (nI (M (r / 32) ||| 2 ^ (r / 4 % 8)))), nI (k + 1)), ?_, ⟨g1.tr (Sx.ud rfl), g2, g3, fun x => if x = r / 32 then M x ||| 2 ^ (r / 4 % 8) else M x, fun x hx => ?_, fun x y hx => ?_⟩, rfl⟩
    · show f_Sp_follow_L10b N 27 10 _ υ _ = _
      unfold f_Sp_follow_L10b
      rw [g1 10 3 rfl, u3, if_neg (nI_ge hk (by omega)), ogd_t _ (inb_n (by omega) (by omega)), nI_clamp (by omega)]
      show obd (f_Sp_addRule N 27 υ (υ 17 k)) _ = _
      rw [g1 17 k rfl, ← hkr, u5 r hr h1, addRule_27 hr (g4 _ (by omega)).2 (g4 _ (by omega)).1, obd_s, ilet_s, nI_1]
    · show upd (υ 29) (r / 32) (nI (M (r / 32) ||| 2 ^ (r / 4 % 8))) x = nI (if x = r / 32 then M x ||| 2 ^ (r / 4 % 8) else M x) ∧ (if x = r / 32 then M x ||| 2 ^ (r / 4 % 8) else M x) < 256
      rw [upd_at]
      by_cases q : x = r / 32
      · rw [if_pos q, if_pos q, q]
        exact ⟨rfl, Nat.or_lt_two_pow (n := 8) (g4 _ (by omega)).2 (Nat.pow_lt_pow_right (by omega) (by omega))⟩
      · rw [if_neg q, if_neg q]; exact g4 x hx
    · have step : (∃ r', r' < 256 ∧ (τ 57 r' = 1 ∧ cq (τ 57) r' < k + 1) ∧ r' / 32 = x ∧ r' / 4 % 8 = y) ↔ ((∃ r', r' < 256 ∧ (τ 57 r' = 1 ∧ cq (τ 57) r' < k) ∧ r' / 32 = x ∧ r' / 4 % 8 = y) ∨ (x = r / 32 ∧ y = r / 4 % 8)) := by
        constructor
        · rintro ⟨r', a1, ⟨a2, a3⟩, a4, a5⟩
          rcases Nat.lt_or_ge (cq (τ 57) r') k with q | q
          · exact Or.inl ⟨r', a1, ⟨a2, q⟩, a4, a5⟩
          · have : r' = r := cq_inj a2 h1 (by omega)
            subst this; exact Or.inr ⟨a4.symm, a5.symm⟩
        · rintro (⟨r', a1, ⟨a2, a3⟩, a4⟩ | ⟨rfl, rfl⟩)
          · exact ⟨r', a1, ⟨a2, by omega⟩, a4⟩
          · exact ⟨r, hr, ⟨h1, by omega⟩, rfl, rfl⟩
      rw [step]
      show (if x = r / 32 then M x ||| 2 ^ (r / 4 % 8) else M x).testBit y = true ↔ _
      by_cases q : x = r / 32
      · rw [if_pos q, Nat.testBit_or, Bool.or_eq_true, g5 x y hx, Nat.testBit_two_pow, decide_eq_true_eq]
        constructor
        · rintro ((a | a) | a)
          · exact Or.inl a
          · exact Or.inr (Or.inl a)
          · exact Or.inr (Or.inr ⟨q, a.symm⟩)
        · rintro (a | (a | a))
          · exact Or.inl (Or.inl a)
          · exact Or.inl (Or.inr a)
          · exact Or.inr a.2.symm
      · rw [if_neg q, g5 x y hx]
        constructor
        · rintro (a | a)
          · exact Or.inl a
          · exact Or.inr (Or.inl a)
        · rintro (a | (a | a))
          · exact Or.inl a
          · exact Or.inr a
          · exact absurd a.1 q
  · show (2 ^ x).testBit y = true ↔ _
    rw [Nat.testBit_two_pow]
    refine ⟨fun q => Or.inl ((of_decide_eq_true q).symm), fun q => ?_⟩
    rcases q with q | ⟨r, _, ⟨_, q⟩, _⟩
    · exact decide_eq_true q.symm
    · exact absurd q (Nat.not_lt_zero _)
theorem opens_y {N : Nat} {τ : Hp} (hN : 1000 ≤ N) : ∃ τ', f_Mo_opens N 42 τ = some (0, τ') ∧ Sx (fun k _ => k == 58) τ τ' ∧ ∀ r, r < 256 → τ' 58 r = 0 := by
  unfold f_Mo_opens
  refine lup (fun n (s : Hp × Int32) => f_Mo_opens_L2 N 42 n s.1 s.2) (fun i s => (Sx (fun k _ => k == 58) τ s.1 ∧ ∀ r, r < i → s.1 58 r = 0) ∧ s.2 = nI i) (fun z => ∃ τ', z = some (0, τ') ∧ Sx (fun k _ => k == 58) τ τ' ∧ ∀ r, r < 256 → τ' 58 r = 0) 256 ?_ ?_ N 0 (τ, 0) (Nat.zero_le _) (by omega) ⟨⟨Sx.rf, fun r hr => absurd hr (Nat.not_lt_zero r)⟩, rfl⟩
  · rintro n ⟨υ, s2⟩ ⟨⟨g1, g2⟩, g3⟩
    dsimp only at g1 g2 g3 ⊢
    subst g3
    refine ⟨υ, ?_, g1, g2⟩
    show f_Mo_opens_L2b N 42 _ υ _ = _
    unfold f_Mo_opens_L2b
    rw [if_pos (show (256 : Int32) ≤ nI 256 from by decide)]
  · rintro n i ⟨υ, s2⟩ hi ⟨⟨g1, g2⟩, g3⟩
    dsimp only at g1 g2 g3 ⊢
    subst g3
    refine Or.inr ⟨(upR υ 58 (upd (υ 58) i 0), nI (i + 1)), ?_, ⟨g1.tr (Sx.ud rfl), fun r hr => ?_⟩, rfl⟩
    · show f_Mo_opens_L2b N 42 _ υ _ = _
      unfold f_Mo_opens_L2b
      rw [if_neg (show ¬ (256 : Int32) ≤ nI i from nI_ge (b := 256) hi (by omega)), ogd_t _ (inb_n hi (by omega)), ilet_s, ilet_s, nI_1, nI_clamp (by omega)]
      rfl
    · show upd (υ 58) i 0 r = 0
      rw [upd_at]
      by_cases q : r = i
      · rw [if_pos q]
      · rw [if_neg q]; exact g2 r (by omega)
theorem Rch.lt {P : Nat → Prop} {x y : Nat} (h : Rch P x y) (hx : x < 8) : y < 8 := h (fun y => y < 8) hx (fun r _ _ _ => by omega)
theorem or_ge (m y : Nat) : m ≤ m ||| 2 ^ y := Nat.left_le_or
theorem cnt_ext {p q : Nat → Bool} : ∀ n, (∀ j, j < n → p j = q j) → cnt p n = cnt q n
  | 0, _ => rfl
  | n + 1, h => by rw [cnt, cnt, cnt_ext n (fun j hj => h j (by omega)), h n (by omega)]
theorem cnt_ne {p : Nat → Bool} {h : Nat} (hp : p h = true) : ∀ n, h < n → cnt (fun j => !(j == h) && p j) n + 1 = cnt p n
  | n + 1, hn => by
    rw [cnt, cnt]
    by_cases q : n = h
    · subst q
      rw [hp, cnt_ext n (q := p) (fun j hj => by rw [show (j == n) = false from beq_eq_false_iff_ne.mpr (by omega)]; rfl)]
      rw [show (n == n) = true from beq_self_eq_true n]; rfl
    · have := cnt_ne hp n (by omega)
      rw [show (n == h) = false from beq_eq_false_iff_ne.mpr q]
      show cnt _ n + (if p n = true then 1 else 0) + 1 = _
      omega
theorem cnt_tail {p : Nat → Bool} {n : Nat} : ∀ k, (∀ j, n ≤ j → j < n + k → p j = false) → cnt p (n + k) = cnt p n
  | 0, _ => rfl
  | k + 1, h => by
    show cnt p (n + k) + (if p (n + k) = true then 1 else 0) = _
    rw [cnt_tail k (fun j h1 h2 => h j h1 (by omega)), h (n + k) (by omega) (by omega)]; rfl
theorem hcm_n {ro : Nat → Int32} {m n : Nat} (hn : n ≤ 8) (h : ∀ j, n ≤ j → j < 8 → ro j = (-1)) : hcm ro m n = hcm ro m 8 := by
  unfold hcm
  have := cnt_tail (p := hcb ro m) (n := n) (8 - n) (fun j h1 h2 => by
    unfold hcb; rw [h j h1 (by omega)]; rfl)
  rw [show n + (8 - n) = 8 by omega] at this
  exact this.symm
def Pw (τ : Hp) (r : Nat) : Prop := τ 57 r = 1 ∧ τ 58 r = 0
theorem scan_y {N n h x m : Nat} {τ : Hp} {K : Hp → Int32 → Int32 → Int32 → OR} (hN : 1000 ≤ N) (h57 : ∀ r, r < 256 → τ 57 r = 0 ∨ τ 57 r = 1) (h58 : ∀ r, r < 256 → τ 58 r = 0 ∨ τ 58 r = 1) (hm : m < 256) (hs : ∀ y, m.testBit y = true → Rch (Pw τ) x y) : ∃ m', m ≤ m' ∧ m' < 256 ∧ (∀ y, m.testBit y = true → m'.testBit y = true) ∧ (∀ y, m'.testBit y = true → Rch (Pw τ) x y) ∧ (m' = m → ∀ r, r < 256 → Pw τ r → m.testBit (r / 32) = true → m.testBit (r / 4 % 8) = true) ∧ f_Mo_reachOf_L21 N 42 K N τ (nI h) (nI m) (nI m) 0 = K τ (nI h) (nI m') (nI (if m' = m then 0 else 1)) := by
  refine lup (fun n' (s : Nat × Int32) => f_Mo_reachOf_L21 N 42 K n' τ (nI h) (nI s.1) (nI m) s.2) (fun i s => (m ≤ s.1 ∧ s.1 < 256 ∧ (∀ y, m.testBit y = true → s.1.testBit y = true) ∧ (∀ y, s.1.testBit y = true → Rch (Pw τ) x y) ∧ (s.1 = m → ∀ r, r < i → Pw τ r → m.testBit (r / 32) = true → m.testBit (r / 4 % 8) = true)) ∧ s.2 = nI i) (fun z => ∃ m', m ≤ m' ∧ m' < 256 ∧ (∀ y, m.testBit y = true → m'.testBit y = true) ∧ (∀ y, m'.testBit y = true → Rch (Pw τ) x y) ∧ (m' = m → ∀ r, r < 256 → Pw τ r → m.testBit (r / 32) = true → m.testBit (r / 4 % 8) = true) ∧ z = K τ (nI h) (nI m') (nI (if m' = m then 0 else 1))) 256 ?_ ?_ N 0 (m, 0) (Nat.zero_le _) (by omega) ⟨⟨Nat.le_refl _, hm, fun _ q => q, hs, fun _ r hr => absurd hr (Nat.not_lt_zero r)⟩, rfl⟩
  · rintro n' ⟨m', s2⟩ ⟨⟨g1, g2, g3, g4, g5⟩, g6⟩
    dsimp only at g1 g2 g3 g4 g5 g6 ⊢
    subst g6
    refine ⟨m', g1, g2, g3, g4, g5, ?_⟩
    show f_Mo_reachOf_L21b N 42 _ _ τ _ _ _ _ = _
    unfold f_Mo_reachOf_L21b
    rw [if_pos (show (256 : Int32) ≤ nI 256 from by decide)]
    by_cases q : m' = m
    · rw [if_pos (by rw [q]), if_pos q]; rfl
    · rw [if_neg (fun e => q ((nI_eq (by omega) (by omega)).mp e)), if_neg q]; rfl
  · rintro n' r ⟨m', s2⟩ hr ⟨⟨g1, g2, g3, g4, g5⟩, g6⟩
    dsimp only at g1 g2 g3 g4 g5 g6 ⊢
    subst g6
    obtain ⟨r1, r2, r3, r4, r5⟩ := rule3 r hr
    have e : f_Mo_reachOf_L21 N 42 K (n' + 1) τ (nI h) (nI m') (nI m) (nI r) = if τ 57 r = 0 then f_Mo_reachOf_L21 N 42 K n' τ (nI h) (nI m') (nI m) (nI (r + 1)) else (if τ 58 r = 0 then (if ((nI m' >>> (nI (r / 32) &&& 31)) &&& 1) = 1 then f_Mo_reachOf_L21 N 42 K n' τ (nI h) (nI m' ||| (1 <<< (nI (r / 4 % 8) &&& 31))) (nI m) (nI (r + 1)) else f_Mo_reachOf_L21 N 42 K n' τ (nI h) (nI m') (nI m) (nI (r + 1))) else f_Mo_reachOf_L21 N 42 K n' τ (nI h) (nI m') (nI m) (nI (r + 1))) := by
      show f_Mo_reachOf_L21b N 42 _ _ τ _ _ _ _ = _
      unfold f_Mo_reachOf_L21b
      rw [if_neg (show ¬ (256 : Int32) ≤ nI r from nI_ge (b := 256) hr (by omega)), ogd_t _ (inb_n hr (by omega)), nI_clamp (by omega), ogd_t _ (inb_n hr (by omega))]
      simp only [ilet_s, nI_1, r4, r2]
    rw [e]
    refine Or.inr ?_
    have hgo : ∀ {m2 : Nat}, m2 = m' → (¬ (Pw τ r ∧ m'.testBit (r / 32) = true)) → (m2 = m → ∀ r', r' < r + 1 → Pw τ r' → m.testBit (r' / 32) = true → m.testBit (r' / 4 % 8) = true) := by
      intro m2 e2 hno e3 r' hr' hp hb
      rcases Nat.lt_or_ge r' r with q | q
      · exact g5 (e2 ▸ e3) r' q hp hb
      · have : r' = r := by omega
        subst this
        have : m' = m := e2 ▸ e3
        exact absurd ⟨hp, this.symm ▸ hb⟩ hno
    rcases h57 r hr with q | q
    · rw [if_pos q]
      exact ⟨(m', nI (r + 1)), rfl, ⟨g1, g2, g3, g4, hgo rfl (fun e => by have := e.1.1; rw [q] at this; exact absurd this (by decide))⟩, rfl⟩
    · rw [if_neg (by rw [q]; decide)]
      rcases h58 r hr with q2 | q2
      · rw [if_pos q2]
        by_cases q3 : m'.testBit (r / 32) = true
        · rw [if_pos ((bt8 m' g2 _ (by omega)).mpr q3), or8 m' g2 _ (by omega)]
          refine ⟨(m' ||| 2 ^ (r / 4 % 8), nI (r + 1)), rfl, ⟨Nat.le_trans g1 (or_ge _ _), Nat.or_lt_two_pow (n := 8) g2 (Nat.pow_lt_pow_right (by omega) (by omega)), fun y hy => ?_, fun y hy => ?_, fun e3 r' hr' hp hb => ?_⟩, rfl⟩
          · show (m' ||| 2 ^ (r / 4 % 8)).testBit y = true
            rw [Nat.testBit_or, g3 y hy]; rfl
          · have hy : (m' ||| 2 ^ (r / 4 % 8)).testBit y = true := hy
            rw [Nat.testBit_or, Bool.or_eq_true, Nat.testBit_two_pow, decide_eq_true_eq] at hy
            rcases hy with hy | hy
            · exact g4 y hy
            · rw [← hy]; exact Rch.st (g4 _ q3) hr ⟨q, q2⟩
          · have e3 : m' ||| 2 ^ (r / 4 % 8) = m := e3
            have hle := or_ge m' (r / 4 % 8)
            have em : m' = m := by omega
            rcases Nat.lt_or_ge r' r with q4 | q4
            · exact g5 em r' q4 hp hb
            · have : r' = r := by omega
              subst this
              rw [← e3, Nat.testBit_or, Bool.or_eq_true, Nat.testBit_two_pow, decide_eq_true_eq]
              exact Or.inr rfl
        · rw [if_neg (fun e => q3 ((bt8 m' g2 _ (by omega)).mp e))]
          exact ⟨(m', nI (r + 1)), rfl, ⟨g1, g2, g3, g4, hgo rfl (fun e => q3 e.2)⟩, rfl⟩
      · rw [if_neg (by rw [q2]; decide)]
        exact ⟨(m', nI (r + 1)), rfl, ⟨g1, g2, g3, g4, hgo rfl (fun e => by have := e.1.2; rw [q2] at this; exact absurd this (by decide))⟩, rfl⟩
theorem reachOf_y {N n R h x : Nat} {τ : Hp} (hN : 1000 ≤ N) (hn : n ≤ 8) (h1 : τ 42 1 = nI n) (hIR : IR n R (τ 12) (τ 44)) (h57 : ∀ r, r < 256 → τ 57 r = 0 ∨ τ 57 r = 1) (h58 : ∀ r, r < 256 → τ 58 r = 0 ∨ τ 58 r = 1) (hh : h < n) (e : τ 44 h = nI x) (hx : x < 8) : ∃ m, m < 256 ∧ (∀ y, m.testBit y = true ↔ Rch (Pw τ) x y) ∧ f_Mo_reachOf N 42 τ (nI h) = some (nI (hcm (τ 44) m 8) - 1, τ) := by
  unfold f_Mo_reachOf
  rw [ogd_t _ (inb_n (by omega) (by omega)), ilet_s, nI_clamp (by omega)]
  show ∃ m, m < 256 ∧ (∀ y, m.testBit y = true ↔ Rch (Pw τ) x y) ∧ f_Mo_reachOf_L11 N 42 N τ (nI h) (1 <<< (τ 44 h &&& 31)) (nI 1) = _
  rw [e, sh8 x hx]
  refine lwh (fun n (s : Nat × Nat) => f_Mo_reachOf_L11 N 42 n τ (nI h) (nI s.1) (nI s.2)) (fun s => s.1 < 256 ∧ s.1.testBit x = true ∧ (∀ y, s.1.testBit y = true → Rch (Pw τ) x y) ∧ (s.2 = 1 ∨ (s.2 = 0 ∧ ∀ r, r < 256 → Pw τ r → s.1.testBit (r / 32) = true → s.1.testBit (r / 4 % 8) = true))) (fun s => 2 * (256 - s.1) + s.2) (fun z => ∃ m, m < 256 ∧ (∀ y, m.testBit y = true ↔ Rch (Pw τ) x y) ∧ z = some (nI (hcm (τ 44) m 8) - 1, τ)) ?_ N (2 ^ x, 1) (by show 2 * (256 - 2 ^ x) + 1 < N; generalize 2 ^ x = p; omega) ⟨Nat.pow_lt_pow_right (by omega) (show x < 8 from hx), by rw [Nat.testBit_two_pow]; exact decide_eq_true rfl, fun y hy => by rw [Nat.testBit_two_pow] at hy; rw [← of_decide_eq_true hy]; exact Rch.rf x, Or.inl rfl⟩
  rintro k ⟨m, mo⟩ ⟨g1, g2, g3, g4⟩
  dsimp only at g1 g2 g3 g4 ⊢
  rcases g4 with rfl | ⟨rfl, g4⟩
  · refine Or.inr ?_
    show ∃ s' : Nat × Nat, f_Mo_reachOf_L11b N 42 _ τ _ _ _ = _ ∧ _
    unfold f_Mo_reachOf_L11b
    rw [if_neg (show ¬ nI 1 = 0 by decide)]
    obtain ⟨m', a1, a2, a3, a4, a5, a6⟩ := scan_y (N := N) (h := h) (x := x) (K := f_Mo_reachOf_L11 N 42 k) (n := n) hN h57 h58 g1 g3
    rw [a6]
    refine ⟨(m', if m' = m then 0 else 1), rfl, ⟨a2, a3 x g2, a4, ?_⟩, ?_⟩
    · by_cases q : m' = m
      · subst q
        exact Or.inr ⟨if_pos rfl, a5 rfl⟩
      · exact Or.inl (if_neg q)
    · show 2 * (256 - m') + (if m' = m then 0 else 1) < 2 * (256 - m) + 1
      by_cases q : m' = m
      · rw [if_pos q, q]; omega
      · rw [if_neg q]; omega
  · refine Or.inl ⟨m, g1, fun y => ⟨g3 y, fun hr => hr (fun y => m.testBit y = true) g2 g4⟩, ?_⟩
    show f_Mo_reachOf_L11b N 42 _ τ _ _ _ = _
    unfold f_Mo_reachOf_L11b
    rw [if_pos (show nI 0 = 0 from rfl)]
    have hb : hcb (τ 44) m h = true := by
      unfold hcb
      rw [e, nI_clamp (by omega), g2, show (nI x == (-1)) = false from beq_eq_false_iff_ne.mpr (nm1_ne (by omega))]; rfl
    have hc1 := cnt_ne (p := hcb (τ 44) m) hb n hh
    have hc2 : hcm (τ 44) m n = hcm (τ 44) m 8 := hcm_n hn (fun j h1 h2 => by
      rw [(hIR.2.1 j h2).1]
      rcases (hIR.2.1 j h2).2 with q | ⟨q, -⟩
      · exact q
      · omega)
    have hc3 : nI (hcm (τ 44) m 8) - 1 = nI (cnt (fun j => !(j == h) && hcb (τ 44) m j) n) := by
      rw [← hc2, hcm, ← hc1, nI_pred]
    rw [hc3]
    refine lup (fun n' (s : Int32 × Int32) => f_Mo_reachOf_L101 N 42 n' τ (nI h) (nI m) s.1 s.2) (fun i s => s.1 = nI (cnt (fun j => !(j == h) && hcb (τ 44) m j) i) ∧ s.2 = nI i) (fun z => z = some (nI (cnt (fun j => !(j == h) && hcb (τ 44) m j) n), τ)) n ?_ ?_ N 0 (0, 0) (Nat.zero_le _) (by omega) ⟨rfl, rfl⟩
    · rintro n' ⟨s1, s2⟩ ⟨h3, h4⟩
      dsimp only at h3 h4 ⊢
      subst h3; subst h4
      show f_Mo_reachOf_L101b N 42 _ τ _ _ _ _ = _
      unfold f_Mo_reachOf_L101b
      rw [h1, if_pos (nI_le (Nat.le_refl _) (by omega))]
    · rintro n' j ⟨s1, s2⟩ hj ⟨h3, h4⟩
      dsimp only at h3 h4 ⊢
      subst h3; subst h4
      refine Or.inr ⟨(nI (cnt (fun j => !(j == h) && hcb (τ 44) m j) (j + 1)), nI (j + 1)), ?_, rfl, rfl⟩
      show f_Mo_reachOf_L101b N 42 _ τ _ _ _ _ = _
      unfold f_Mo_reachOf_L101b
      rw [h1, if_neg (nI_ge hj (by omega))]
      have z0 : ∀ c : Nat, nI c + 0 = nI c := fun c => by rw [li0, nI_add]; rfl
      by_cases q : j = h
      · rw [if_pos (by rw [q]), ilet_s, ilet_s, nI_1, z0, cnt, show (j == h) = true from beq_iff_eq.mpr q]; rfl
      · rw [if_neg (fun e => q ((nI_eq (by omega) (by omega)).mp e)), ogd_t _ (inb_n (i := j) (by omega) (by omega)), nI_clamp (by omega), ogd_t _ (inb_n (i := j) (by omega) (by omega))]
        show (if τ 44 j = (-1) then _ else (if ((nI m >>> (τ 44 j &&& 31)) &&& 1) = 1 then _ else _)) = _
        rw [cnt, show (j == h) = false from beq_eq_false_iff_ne.mpr q]
        unfold hcb
        rcases hIR.rv' j (by omega) with q2 | ⟨b, hb2, q2⟩
        · rw [if_pos q2, ilet_s, ilet_s, nI_1, z0, q2]; rfl
        · rw [q2, if_neg (nm1_ne (by omega)), nI_clamp (by omega), show (nI b == (-1)) = false from beq_eq_false_iff_ne.mpr (nm1_ne (by omega))]
          by_cases q3 : m.testBit b = true
          · rw [if_pos ((bt8 m g1 b hb2).mpr q3), ilet_s, ilet_s, nI_1, nI_1, q3]; rfl
          · rw [if_neg (fun e => q3 ((bt8 m g1 b hb2).mp e)), ilet_s, ilet_s, nI_1, z0, Bool.eq_false_iff.mpr q3]; rfl
