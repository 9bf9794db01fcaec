/-- the next rooms in order -/
def vl (s : Nat → Nat) : Nat → Nat
  | 0 => 0
  | k + 1 => 8 * vl s k + s k
theorem vl_cg {s t : Nat → Nat} : ∀ k, (∀ j, j < k → t j = s j) → vl t k = vl s k
  | 0, _ => rfl
  | k + 1, h => by rw [vl, vl, vl_cg k (fun j hj => h j (by omega)), h k (by omega)]
theorem vl_lt {s : Nat → Nat} : ∀ k, (∀ j, j < k → s j < 8) → vl s k < 8 ^ k
  | 0, _ => by rw [vl]; exact Nat.one_pos
  | k + 1, h => by
    have h1 := vl_lt k (fun j hj => h j (by omega))
    have h2 := h k (by omega)
    rw [vl, Nat.pow_succ]; omega
theorem vl_lx {s t : Nat → Nat} {j : Nat} (h : ∀ i, i < j → t i = s i) (hj : t j < s j) : ∀ k, j < k → (∀ i, i < k → t i < 8) → vl t k < vl s k
  | 0, q, _ => absurd q (Nat.not_lt_zero j)
  | k + 1, q, h8 => by
    rw [vl, vl]
    rcases Nat.lt_or_ge j k with e | e
    · have := vl_lx h hj k e (fun i hi => h8 i (by omega))
      have := h8 k (by omega)
      omega
    · have : j = k := by omega
      subst this
      rw [vl_cg j h]; omega
def sx (s : Nat → Nat) (k j : Nat) : Nat := if j < k then s j else if j = k then s k + 1 else 0
theorem sx_lt {s : Nat → Nat} {k j : Nat} (h : j < k) : sx s k j = s j := if_pos h
theorem sx_eq {s : Nat → Nat} {k : Nat} : sx s k k = s k + 1 := by unfold sx; rw [if_neg (Nat.lt_irrefl k), if_pos rfl]
theorem sx_gt {s : Nat → Nat} {k j : Nat} (h : k < j) : sx s k j = 0 := by unfold sx; rw [if_neg (by omega), if_neg (by omega)]
theorem sx_RGS {s : Nat → Nat} {k n : Nat} (h : RGS n s) (hk : s k < rb s k) : RGS n (sx s k) := fun j hj => by
  rcases Nat.lt_trichotomy j k with q | q | q
  · rw [sx_lt q, rb_cg (s := s) j (fun i hi => sx_lt (by omega))]; exact h j hj
  · subst q
    rw [sx_eq, rb_cg (s := s) j (fun i hi => sx_lt hi)]; exact hk
  · rw [sx_gt q]; exact Nat.zero_le _
theorem LX.tr {n : Nat} {s t u : Nat → Nat} (h : LX n s t) (h' : LX n t u) : LX n s u := by
  obtain ⟨j, a, b, c⟩ := h
  obtain ⟨k, d, e, f⟩ := h'
  rcases Nat.lt_trichotomy j k with q | q | q
  · exact ⟨j, a, fun i hi => by rw [b i hi, e i (by omega)], by rw [← e j q]; exact c⟩
  · subst q; exact ⟨j, a, fun i hi => by rw [b i hi, e i hi], by omega⟩
  · exact ⟨k, d, fun i hi => by rw [b i (by omega), e i hi], by rw [b k q]; exact f⟩
theorem sx_LX {s t : Nat → Nat} {k n : Nat} (hkn : k < n) (hl : ∀ j, k < j → j < n → s j = rb s j) (ht : RGS n t) : LX n t (sx s k) ↔ (LX n t s ∨ ∀ j, j < n → t j = s j) := by
  have up : LX n s (sx s k) := ⟨k, hkn, fun i hi => (sx_lt hi).symm, by rw [sx_eq]; omega⟩
  constructor
  · rintro ⟨j, a, b, c⟩
    rcases Nat.lt_trichotomy j k with q | q | q
    · rw [sx_lt q] at c
      exact Or.inl ⟨j, a, fun i hi => by rw [b i hi, sx_lt (by omega)], c⟩
    · subst q
      rw [sx_eq] at c
      have b' : ∀ i, i < j → t i = s i := fun i hi => by rw [b i hi, sx_lt hi]
      rcases Nat.lt_or_ge (t j) (s j) with q2 | q2
      · exact Or.inl ⟨j, a, b', q2⟩
      · have ej : t j = s j := by omega
        rcases lex_3 (s := s) (t := t) n with e | e | ⟨i, d1, d2, d3⟩
        · exact Or.inr e
        · exact Or.inl e
        · exfalso
          have hi : j < i := by
            rcases Nat.lt_trichotomy i j with q3 | q3 | q3
            · have := b' i q3; omega
            · subst q3; omega
            · exact q3
          have k1 := hl i hi d1
          have k2 := ht i d1
          rw [rb_cg (s := s) i (fun m hm => (d2 m hm).symm)] at k2
          omega
    · rw [sx_gt q] at c
      exact absurd c (Nat.not_lt_zero _)
  · rintro (e | e)
    · exact e.tr up
    · exact ⟨k, hkn, fun i hi => by rw [e i (by omega), sx_lt hi], by rw [e k hkn, sx_eq]; omega⟩
theorem last_LX {s t : Nat → Nat} {n : Nat} (hl : ∀ j, 0 < j → j < n → s j = rb s j) (ht : RGS n t) : LX n t s ∨ ∀ j, j < n → t j = s j := by
  rcases lex_3 (s := s) (t := t) n with e | e | ⟨i, d1, d2, d3⟩
  · exact Or.inr e
  · exact Or.inl e
  · exfalso
    have k2 := ht i d1
    rcases Nat.eq_zero_or_pos i with h0 | h0
    · subst h0
      have : rb t 0 = 0 := rfl
      omega
    · have k1 := hl i h0 d1
      rw [rb_cg (s := s) i (fun m hm => (d2 m hm).symm)] at k2
      omega
theorem imax_m {a x : Nat} (ha : a < 1000) (hx : x < 1000) : imax (nI a - 1) (nI x) = nI (max a (x + 1)) - 1 := by
  rcases Nat.eq_zero_or_pos a with h0 | h0
  · subst h0
    rw [show max 0 (x + 1) = x + 1 by omega, nI_pred]
    unfold imax
    rw [if_pos]
    rw [fa_ltI, nI_toInt (by omega), show (nI 0 - 1 : Int32).toInt = -1 from rfl]
    omega
  · obtain ⟨b, rfl⟩ : ∃ b, a = b + 1 := ⟨a - 1, by omega⟩
    rw [nI_pred, imax_n (by omega) (by omega), show max (b + 1) (x + 1) = max b x + 1 by omega, nI_pred]
section MN
variable {N n : Nat} {τ : Hp} {u : Nat → Nat}
theorem go64 {a : Nat} (hN : 1000 ≤ N) (hn : n ≤ 8) (ha : a < n) (h1 : τ 42 1 = nI n) : ∃ ρ : Nat → Int32, f_Mo_goesOn_L64 N 42 N τ (nI (a + 1)) = some (1, upR τ 54 ρ) ∧ ∀ j, ρ j = if a < j ∧ j < n then 0 else τ 54 j := by
  refine (lup (fun n' (s : (Nat → Int32) × Int32) => f_Mo_goesOn_L64 N 42 n' (upR τ 54 s.1) s.2) (fun i s => (a < i ∧ ∀ j, s.1 j = if a < j ∧ j < i then 0 else τ 54 j) ∧ s.2 = nI i) (fun z => ∃ ρ : Nat → Int32, z = some (1, upR τ 54 ρ) ∧ ∀ j, ρ j = if a < j ∧ j < n then 0 else τ 54 j) n ?_ ?_ N (a + 1) (τ 54, nI (a + 1)) (by omega) (by omega) ⟨⟨by omega, fun j => by rw [if_neg (by omega)]⟩, rfl⟩ |> fun h => by rw [upR_id] at h; exact h)
  · rintro n' ⟨ρ, s2⟩ ⟨g1, g2⟩
    dsimp only at g1 g2 ⊢
    subst g2
    refine ⟨ρ, ?_, g1.2⟩
    show f_Mo_goesOn_L64b N 42 _ _ _ = _
    unfold f_Mo_goesOn_L64b
    rw [show (upR τ 54 ρ) 42 1 = nI n from h1, if_pos (nI_le (Nat.le_refl _) (by omega))]
  · rintro n' i ⟨ρ, s2⟩ hi ⟨g1, g2⟩
    dsimp only at g1 g2 ⊢
    subst g2
    refine Or.inr ⟨(upd ρ i 0, nI (i + 1)), ?_, ⟨by omega, fun j => ?_⟩, rfl⟩
    · show f_Mo_goesOn_L64b N 42 _ _ _ = _
      unfold f_Mo_goesOn_L64b
      rw [show (upR τ 54 ρ) 42 1 = nI n from h1, if_neg (nI_ge hi (by omega)), ogd_t _ (inb_n (show i < 8 by omega) (by omega)), ilet_s, ilet_s, nI_1, nI_clamp (n := i) (by omega), show (upR τ 54 ρ) (42 + 12) = ρ from upR_eq τ 54 ρ, upR_2]
    · show upd ρ i 0 j = _
      rw [upd_at, g1.2]
      by_cases q : j = i
      · subst q
        rw [if_pos rfl, if_pos ⟨g1.1, by omega⟩]
      · rw [if_neg q]
        by_cases q2 : a < j ∧ j < i
        · rw [if_pos q2, if_pos ⟨q2.1, by omega⟩]
        · rw [if_neg q2, if_neg (fun e => q2 ⟨e.1, by omega⟩)]
theorem go15 {a : Nat} {K : Hp → Int32 → OR} (hN : 1000 ≤ N) (hn : n ≤ 8) (h0 : 0 < a) (ha : a < n) (hu : RGS n u) (h54 : ∀ j, j < 8 → τ 54 j = fr n u j) : (u a < rb u a ∧ f_Mo_goesOn_L15 N 42 K N τ (nI a) (-1) 0 = f_Mo_goesOn_L64 N 42 N (upR τ 54 (upd (τ 54) a (nI (u a + 1)))) (nI (a + 1))) ∨ (¬ u a < rb u a ∧ f_Mo_goesOn_L15 N 42 K N τ (nI a) (-1) 0 = K τ (nI (a - 1))) := by
  have v54 : ∀ j, j < n → τ 54 j = nI (u j) := fun j hj => (h54 j (by omega)).trans (fr_in hj)
  have h8 : ∀ j, j < n → u j < 8 := fun j hj => hu.lt hn hj
  have hr : rb u a ≤ a := rb_le a (fun j hj => hu j (by omega))
  have hr0 : 0 < rb u a := Nat.lt_of_le_of_lt (Nat.zero_le _) (rb_at (s := u) h0)
  have i8 : inb (nI a) 8 = true := inb_n (by omega) (by omega)
  refine lup (fun n' (s : Int32 × Int32) => f_Mo_goesOn_L15 N 42 K n' τ (nI a) s.1 s.2) (fun i s => s.1 = nI (rb u i) - 1 ∧ s.2 = nI i) (fun z => (u a < rb u a ∧ z = f_Mo_goesOn_L64 N 42 N (upR τ 54 (upd (τ 54) a (nI (u a + 1)))) (nI (a + 1))) ∨ (¬ u a < rb u a ∧ z = K τ (nI (a - 1)))) a ?_ ?_ N 0 (-1, 0) (Nat.zero_le _) (by omega) ⟨rfl, rfl⟩
  · rintro n' ⟨s1, s2⟩ ⟨g1, g2⟩
    dsimp only at g1 g2 ⊢
    subst g1; subst g2
    show (_ ∧ f_Mo_goesOn_L15b N 42 _ _ _ _ _ _ = _) ∨ (_ ∧ f_Mo_goesOn_L15b N 42 _ _ _ _ _ _ = _)
    unfold f_Mo_goesOn_L15b
    obtain ⟨r, er⟩ : ∃ r, rb u a = r + 1 := ⟨rb u a - 1, by omega⟩
    obtain ⟨b, eb⟩ : ∃ b, a = b + 1 := ⟨a - 1, by omega⟩
    rw [if_pos (nI_le (Nat.le_refl _) (by omega)), ogd_t _ i8, nI_clamp (n := a) (by omega), show τ (42 + 12) a = nI (u a) from v54 a ha, er, nI_pred]
    by_cases q : u a < r + 1
    · rw [if_pos (nI_le (by omega) (by omega)), ogd_t _ i8, ogd_t _ i8, nI_1, ilet_s, nI_1, ilet_s]
      exact Or.inl ⟨q, rfl⟩
    · rw [if_neg (nI_ge (by omega) (by have := h8 a ha; omega)), ilet_s]
      refine Or.inr ⟨q, ?_⟩
      rw [eb, nI_m1]; rfl
  · rintro n' i ⟨s1, s2⟩ hi ⟨g1, g2⟩
    dsimp only at g1 g2 ⊢
    subst g1; subst g2
    refine Or.inr ⟨(nI (rb u (i + 1)) - 1, nI (i + 1)), ?_, rfl, rfl⟩
    show f_Mo_goesOn_L15b N 42 _ _ _ _ _ _ = _
    unfold f_Mo_goesOn_L15b
    have hri : rb u i ≤ i := rb_le i (fun j hj => hu j (by omega))
    have := h8 i (by omega)
    rw [if_neg (nI_ge hi (by omega)), ogd_t _ (inb_n (show i < 8 by omega) (by omega)), nI_clamp (n := i) (by omega), show τ (42 + 12) i = nI (u i) from v54 i (by omega), imax_m (by omega) (by omega), ilet_s, ilet_s, nI_1]
    rfl
theorem goes_y (hN : 1000 ≤ N) (hn0 : 0 < n) (hn : n ≤ 8) (h1 : τ 42 1 = nI n) (hu : RGS n u) (h54 : ∀ j, j < 8 → τ 54 j = fr n u j) : ∃ r υ, f_Mo_goesOn N 42 τ = some (r, υ) ∧ Sx (fun k _ => k == 54) τ υ ∧ ((r = 1 ∧ ∃ u', RGS n u' ∧ vl u n < vl u' n ∧ (∀ j, j < 8 → υ 54 j = fr n u' j) ∧ ∀ t, RGS n t → (LX n t u' ↔ (LX n t u ∨ ∀ j, j < n → t j = u j))) ∨ (r = 0 ∧ ∀ t, RGS n t → (LX n t u ∨ ∀ j, j < n → t j = u j))) := by
  unfold f_Mo_goesOn
  rw [h1, show nI n - 1 = nI (n - 1) from pk_sub (a := n) (b := 1) (by omega), ilet_s]
  refine lwh (fun n' (s : Int32) => f_Mo_goesOn_L7 N 42 n' τ s) (fun s => ∃ a, s = nI a ∧ a < n ∧ ∀ j, a < j → j < n → u j = rb u j) (fun s => s.toNatClampNeg) (fun z => ∃ r υ, z = some (r, υ) ∧ Sx (fun k _ => k == 54) τ υ ∧ ((r = 1 ∧ ∃ u', RGS n u' ∧ vl u n < vl u' n ∧ (∀ j, j < 8 → υ 54 j = fr n u' j) ∧ ∀ t, RGS n t → (LX n t u' ↔ (LX n t u ∨ ∀ j, j < n → t j = u j))) ∨ (r = 0 ∧ ∀ t, RGS n t → (LX n t u ∨ ∀ j, j < n → t j = u j)))) ?_ N (nI (n - 1)) (by rw [nI_clamp (by omega)]; omega) ⟨n - 1, rfl, by omega, fun j a b => by omega⟩
  rintro n' s ⟨a, rfl, ha, hl⟩
  show (∃ r υ, f_Mo_goesOn_L7b N 42 (f_Mo_goesOn_L7 N 42 n') τ (nI a) = _ ∧ _) ∨ ∃ s', f_Mo_goesOn_L7b N 42 (f_Mo_goesOn_L7 N 42 n') τ (nI a) = _ ∧ _
  unfold f_Mo_goesOn_L7b
  rcases Nat.eq_zero_or_pos a with h0 | h0
  · subst h0
    rw [if_pos (by decide)]
    exact Or.inl ⟨0, τ, rfl, Sx.rf, Or.inr ⟨rfl, fun t ht => last_LX hl ht⟩⟩
  · rw [if_neg (nI_nle h0 (by omega))]
    rcases go15 (K := f_Mo_goesOn_L7 N 42 n') hN hn h0 ha hu h54 with ⟨q, e⟩ | ⟨q, e⟩
    · rw [e]
      obtain ⟨ρ, k1, k2⟩ := go64 (N := N) (n := n) (τ := upR τ 54 (upd (τ 54) a (nI (u a + 1)))) hN hn ha h1
      rw [upR_2] at k1
      refine Or.inl ⟨1, _, k1, Sx.u (fun j q => by cases q), Or.inl ⟨rfl, sx u a, sx_RGS hu q, vl_lx (fun i hi => (sx_lt hi).symm) (by rw [sx_eq]; omega) n ha (fun i hi => hu.lt hn hi), fun j hj => ?_, fun t ht => sx_LX ha hl ht⟩⟩
      show upR τ 54 ρ 54 j = _
      rw [upR_eq, k2]
      show (if a < j ∧ j < n then 0 else upd (τ 54) a (nI (u a + 1)) j) = _
      rw [upd_at, h54 j hj]
      by_cases q1 : j < n
      · rw [fr_in q1, fr_in q1]
        rcases Nat.lt_trichotomy j a with q2 | q2 | q2
        · rw [if_neg (by omega), if_neg (by omega), sx_lt q2]
        · subst q2; rw [if_neg (by omega), if_pos rfl, sx_eq]
        · rw [if_pos ⟨q2, q1⟩, sx_gt q2]; rfl
      · rw [fr_out (by omega), fr_out (by omega), if_neg (by omega), if_neg (by omega)]
    · rw [e]
      refine Or.inr ⟨nI (a - 1), rfl, ⟨a - 1, rfl, by omega, fun j h2 h3 => ?_⟩, ?_⟩
      · by_cases q2 : j = a
        · subst q2
          have := hu j h3
          omega
        · exact hl j (by omega) h3
      · show (nI (a - 1)).toNatClampNeg < (nI a).toNatClampNeg
        rw [nI_clamp (by omega), nI_clamp (by omega)]; omega
theorem mix12 {a : Nat} {K : Hp → Int32 → OR} (hN : 1000 ≤ N) (ha : a < 8) : ((∃ b, b < a ∧ τ 54 a = τ 54 b ∧ τ 43 a ≠ τ 43 b) ∧ f_Mo_mixes_L12 N 42 K N τ (nI a) 0 = some (1, τ)) ∨ ((¬ ∃ b, b < a ∧ τ 54 a = τ 54 b ∧ τ 43 a ≠ τ 43 b) ∧ f_Mo_mixes_L12 N 42 K N τ (nI a) 0 = K τ (nI (a + 1))) := by
  have ia : inb (nI a) 8 = true := inb_n (by omega) (by omega)
  refine lup (fun n' (s : Int32) => f_Mo_mixes_L12 N 42 K n' τ (nI a) s) (fun i s => (∀ b, b < i → ¬ (τ 54 a = τ 54 b ∧ τ 43 a ≠ τ 43 b)) ∧ s = nI i) (fun z => ((∃ b, b < a ∧ τ 54 a = τ 54 b ∧ τ 43 a ≠ τ 43 b) ∧ z = some (1, τ)) ∨ ((¬ ∃ b, b < a ∧ τ 54 a = τ 54 b ∧ τ 43 a ≠ τ 43 b) ∧ z = K τ (nI (a + 1)))) a ?_ ?_ N 0 0 (Nat.zero_le _) (by omega) ⟨fun j hj => absurd hj (Nat.not_lt_zero j), rfl⟩
  · rintro n' s ⟨g1, g2⟩
    subst g2
    refine Or.inr ⟨fun ⟨b, x, y⟩ => g1 b x y, ?_⟩
    show f_Mo_mixes_L12b N 42 _ _ _ _ _ = _
    unfold f_Mo_mixes_L12b
    rw [if_pos (nI_le (Nat.le_refl _) (by omega)), ilet_s, nI_1]
  · rintro n' i s hi ⟨g1, g2⟩
    subst g2
    have ii : inb (nI i) 8 = true := inb_n (by omega) (by omega)
    have st : ¬ (τ 54 a = τ 54 i ∧ τ 43 a ≠ τ 43 i) → ∃ s', f_Mo_mixes_L12 N 42 K n' τ (nI a) (nI (i + 1)) = f_Mo_mixes_L12 N 42 K n' τ (nI a) s' ∧ (∀ b, b < i + 1 → ¬ (τ 54 a = τ 54 b ∧ τ 43 a ≠ τ 43 b)) ∧ s' = nI (i + 1) := fun e => ⟨_, rfl, fun b hb => by
      by_cases q : b = i
      · subst q; exact e
      · exact g1 b (by omega), rfl⟩
    show (_ ∧ f_Mo_mixes_L12b N 42 _ _ τ (nI a) (nI i) = _ ∨ _ ∧ f_Mo_mixes_L12b N 42 _ _ τ (nI a) (nI i) = _) ∨ ∃ s', f_Mo_mixes_L12b N 42 _ _ τ (nI a) (nI i) = _ ∧ _
    unfold f_Mo_mixes_L12b
    rw [if_neg (nI_ge hi (by omega)), ogd_t _ ia, ogd_t _ ii, nI_clamp (n := a) (by omega), nI_clamp (n := i) (by omega)]
    by_cases q1 : τ 54 a = τ 54 i
    · rw [if_pos (show τ (42 + 12) a = τ (42 + 12) i from q1), ogd_t _ ia, ogd_t _ ii]
      by_cases q2 : τ 43 a = τ 43 i
      · rw [if_pos (show τ (42 + 1) a = τ (42 + 1) i from q2), ilet_s, nI_1]
        exact Or.inr (st (fun e => e.2 q2))
      · rw [if_neg (show ¬ τ (42 + 1) a = τ (42 + 1) i from q2)]
        exact Or.inl (Or.inl ⟨⟨i, hi, q1, q2⟩, rfl⟩)
    · rw [if_neg (show ¬ τ (42 + 12) a = τ (42 + 12) i from q1), ilet_s, nI_1]
      exact Or.inr (st (fun e => q1 e.1))
theorem mixes_y (hN : 1000 ≤ N) (hn : n ≤ 8) (h1 : τ 42 1 = nI n) (hu : RGS n u) (h54 : ∀ j, j < 8 → τ 54 j = fr n u j) : (MX (τ 43) (fr n u) ∧ f_Mo_mixes N 42 τ = some (1, τ)) ∨ (¬ MX (τ 43) (fr n u) ∧ f_Mo_mixes N 42 τ = some (0, τ)) := by
  have ne : ∀ j, j < n → ¬ fr n u j = (-1) := fun j hj => by rw [fr_in hj]; exact nm1_ne (by have := hu.lt hn hj; omega)
  unfold f_Mo_mixes
  refine lup (fun n' (s : Int32) => f_Mo_mixes_L2 N 42 n' τ s) (fun i s => (∀ a, a < i → ¬ ∃ b, b < a ∧ τ 54 a = τ 54 b ∧ τ 43 a ≠ τ 43 b) ∧ s = nI i) (fun z => (MX (τ 43) (fr n u) ∧ z = some (1, τ)) ∨ (¬ MX (τ 43) (fr n u) ∧ z = some (0, τ))) n ?_ ?_ N 0 0 (Nat.zero_le _) (by omega) ⟨fun j hj => absurd hj (Nat.not_lt_zero j), rfl⟩
  · rintro n' s ⟨g1, g2⟩
    subst g2
    refine Or.inr ⟨?_, ?_⟩
    · rintro ⟨i, j, hi, hj, a, b, c⟩
      have hi' : i < n := Nat.lt_of_not_le (fun q => b (fr_out q))
      have hj' : j < n := Nat.lt_of_not_le (fun q => b (a.trans (fr_out q)))
      rw [← h54 i hi, ← h54 j hj] at a
      rcases Nat.lt_trichotomy i j with q | q | q
      · exact g1 j hj' ⟨i, q, a.symm, fun e => c e.symm⟩
      · subst q; exact c rfl
      · exact g1 i hi' ⟨j, q, a, c⟩
    · show f_Mo_mixes_L2b N 42 _ _ _ = _
      unfold f_Mo_mixes_L2b
      rw [h1, if_pos (nI_le (Nat.le_refl _) (by omega))]
  · rintro n' i s hi ⟨g1, g2⟩
    subst g2
    show (_ ∧ f_Mo_mixes_L2b N 42 (f_Mo_mixes_L2 N 42 n') τ (nI i) = _ ∨ _ ∧ f_Mo_mixes_L2b N 42 (f_Mo_mixes_L2 N 42 n') τ (nI i) = _) ∨ ∃ s', f_Mo_mixes_L2b N 42 (f_Mo_mixes_L2 N 42 n') τ (nI i) = _ ∧ _
    unfold f_Mo_mixes_L2b
    rw [h1, if_neg (nI_ge hi (by omega))]
    rcases mix12 (N := N) (τ := τ) (a := i) (K := f_Mo_mixes_L2 N 42 n') hN (by omega) with ⟨⟨b, k1, k2, k3⟩, e⟩ | ⟨q, e⟩
    · rw [e]
      refine Or.inl (Or.inl ⟨⟨i, b, by omega, by omega, ?_, ne i hi, k3⟩, rfl⟩)
      rw [← h54 i (by omega), ← h54 b (by omega)]; exact k2
    · rw [e]
      refine Or.inr ⟨nI (i + 1), rfl, fun a ha => ?_, rfl⟩
      by_cases q2 : a = i
      · subst q2; exact q
      · exact g1 a (by omega)
end MN
