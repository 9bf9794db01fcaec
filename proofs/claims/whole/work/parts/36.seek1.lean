/-- rooms that may be: nobody of unlike mark beside another, nothing barred is let -/
def FE (mk : Nat → Int32) (S : Prop) (D B ρ : Nat → Int32) : Prop := (S → ¬ MX mk ρ) ∧ ¬ BRD ρ D B
theorem FE.anti {mk : Nat → Int32} {S : Prop} {D B ρ ρ' : Nat → Int32} (h : EXT ρ ρ') (q : FE mk S D B ρ') : FE mk S D B ρ := ⟨fun s e => q.1 s (e.mono h), fun e => q.2 (e.mono h)⟩
/-- the best of those seen -/
def BST (mk : Nat → Int32) (S : Prop) (D B : Nat → Int32) (rp sp n L0 : Nat) (E : (Nat → Nat) → Prop) (L : Nat) (q : Nat → Int32) : Prop :=
  (L = L0 + 1 ∧ ∀ t, RGS n t → E t → FE mk S D B (fr n t) → L ≤ csO rp sp (fr n t) D) ∨
  (∃ f, RGS n f ∧ E f ∧ FE mk S D B (fr n f) ∧ L = csO rp sp (fr n f) D ∧ (∀ j, j < 8 → q j = fr n f j) ∧ ∀ t, RGS n t → E t → FE mk S D B (fr n t) → L ≤ csO rp sp (fr n t) D ∧ (LX n t f → L < csO rp sp (fr n t) D))
def ISB (mk : Nat → Int32) (S : Prop) (D B : Nat → Int32) (rp sp n : Nat) (f : Nat → Nat) : Prop := RGS n f ∧ FE mk S D B (fr n f) ∧ ∀ t, RGS n t → FE mk S D B (fr n t) → csO rp sp (fr n f) D ≤ csO rp sp (fr n t) D ∧ (LX n t f → csO rp sp (fr n f) D < csO rp sp (fr n t) D)
section BS
variable {mk : Nat → Int32} {S : Prop} {D B : Nat → Int32} {rp sp n L0 L : Nat} {E E' : (Nat → Nat) → Prop} {q q' : Nat → Int32}
theorem BST.le (h : BST mk S D B rp sp n L0 E L q) {t : Nat → Nat} (h1 : RGS n t) (h2 : E t) (h3 : FE mk S D B (fr n t)) : L ≤ csO rp sp (fr n t) D := by
  rcases h with ⟨_, h⟩ | ⟨f, _, _, _, _, _, h⟩
  · exact h t h1 h2 h3
  · exact (h t h1 h2 h3).1
theorem BST.lt (h : BST mk S D B rp sp n L0 E L q) (hL0 : L0 ≤ 60000) (h1 : rp ≤ 99) (h2 : sp ≤ 99) : L < 2 ^ 31 := by
  rcases h with ⟨e, _⟩ | ⟨f, _, _, _, e, _, _⟩
  · omega
  · have := csO_le (ρ := fr n f) (D := D) h1 h2
    omega
theorem BST.ext (h : BST mk S D B rp sp n L0 E L q) (hq : ∀ j, j < 8 → q' j = q j) (h1 : ∀ t, RGS n t → E t → E' t) (h2 : ∀ t, RGS n t → E' t → FE mk S D B (fr n t) → E t ∨ (L ≤ csO rp sp (fr n t) D ∧ ∀ f, E f → LX n f t)) : BST mk S D B rp sp n L0 E' L q' := by
  rcases h with ⟨e, h⟩ | ⟨f, a, b, c, d, e, h⟩
  · refine Or.inl ⟨e, fun t g1 g2 g3 => ?_⟩
    rcases h2 t g1 g2 g3 with g | g
    · exact h t g1 g g3
    · exact g.1
  · refine Or.inr ⟨f, a, h1 f a b, c, d, fun j hj => (hq j hj).trans (e j hj), fun t g1 g2 g3 => ?_⟩
    rcases h2 t g1 g2 g3 with g | g
    · exact h t g1 g g3
    · exact ⟨g.1, fun l => absurd l (fun l => l.asym (g.2 f b))⟩
theorem BST.keep (h : BST mk S D B rp sp n L0 E L q) {s : Nat → Nat} (hs : RGS n s) (hE : E' s) (hf : FE mk S D B (fr n s)) (hc : csO rp sp (fr n s) D < L) (hq : ∀ j, j < 8 → q' j = fr n s j) (h2 : ∀ t, RGS n t → E' t → E t ∨ ∀ j, j < n → t j = s j) : BST mk S D B rp sp n L0 E' (csO rp sp (fr n s) D) q' := by
  refine Or.inr ⟨s, hs, hE, hf, rfl, hq, fun t g1 g2 g3 => ?_⟩
  rcases h2 t g1 g2 with g | g
  · have := h.le g1 g g3
    exact ⟨by omega, fun _ => by omega⟩
  · rw [fr_cg g]
    refine ⟨Nat.le_refl _, fun ⟨j, a, _, c⟩ => ?_⟩
    have := g j a
    omega
theorem BST.end (h : BST mk S D B rp sp n L0 E L q) (hE : ∀ t, RGS n t → E t) {g : Nat → Nat} (h1 : RGS n g) (h2 : FE mk S D B (fr n g)) (h3 : csO rp sp (fr n g) D ≤ L0) : ∃ f, ISB mk S D B rp sp n f ∧ L = csO rp sp (fr n f) D ∧ ∀ j, j < 8 → q j = fr n f j := by
  rcases h with ⟨e, h⟩ | ⟨f, a, b, c, d, e, h⟩
  · have := h g h1 (hE g h1) h2
    omega
  · refine ⟨f, ⟨a, c, fun t g1 g2 => ?_⟩, d, e⟩
    rw [← d]; exact h t g1 (hE t g1) g2
theorem ISB.uq {f g : Nat → Nat} (hf : ISB mk S D B rp sp n f) (hg : ISB mk S D B rp sp n g) : fr n f = fr n g := by
  obtain ⟨a1, a2, a3⟩ := hf
  obtain ⟨b1, b2, b3⟩ := hg
  have k1 := a3 g b1 b2
  have k2 := b3 f a1 a2
  rcases lex_3 (s := g) (t := f) n with h | h | h
  · exact fr_cg h
  · have := k2.2 h; omega
  · have := k1.2 h; omega
/-- each host alone -/
theorem rb_id : ∀ k, rb (fun j => j) k = k
  | 0 => rfl
  | k + 1 => by rw [rb, rb_id k]; omega
theorem alone {mk : Nat → Int32} {S : Prop} {D B : Nat → Int32} {rp sp n : Nat} (hn : n ≤ 8) (h : ∀ w, w < 256 → D w = 1 → WY n w ∧ ¬ B w = 1) : RGS n (fun j => j) ∧ FE mk S D B (fr n (fun j => j)) ∧ csO rp sp (fr n (fun j => j)) D = cnt (ob (fun w => D w = 1)) 256 * rp := by
  have at' : ∀ {j x : Nat}, x < 8 → fr n (fun j => j) j = nI x → j = x ∧ j < n := fun {j x} hx e => by
    have h1 := fr_lt (show x < 2 ^ 31 by omega) e
    rw [fr_in h1] at e
    exact ⟨(nI_eq (by omega) (by omega)).mp e, h1⟩
  have ru : ∀ r, r < 256 → (RUL (fr n (fun j => j)) D r ↔ D r = 1) := fun r hr => by
    constructor
    · rintro ⟨_, w, hw, a, b, c, d⟩
      have h1 := (at' (by omega) a).1
      have h2 := (at' (by omega) b).1
      have : w = r := by omega
      subst this; exact d
    · intro e
      obtain ⟨k1, k2, k3, k4⟩ := (h r hr e).1
      exact ⟨k4, r, hr, fr_in k2, fr_in k3, rfl, e⟩
  have le : ∀ w, w < 256 → LET (fr n (fun j => j)) D w → D w = 1 := fun w hw => by
    rintro ⟨a, x, y, hx, hy, e1, e2, e3⟩
    have h1 := (at' hx e1).1
    have h2 := (at' hy e2).1
    rcases e3 with e3 | e3
    · omega
    · have := (ru _ (by omega)).mp e3
      rw [show 32 * x + 4 * y + w % 4 = w by omega] at this
      exact this
  refine ⟨fun j _ => by rw [rb_id]; exact Nat.le_refl _, ⟨fun _ => ?_, ?_⟩, ?_⟩
  · rintro ⟨i, j, hi, hj, a, b, c⟩
    have hi' : i < n := Nat.lt_of_not_le (fun q => b (fr_out q))
    rw [fr_in hi'] at a
    have := (at' (show i < 8 by omega) a.symm).1
    subst this; exact c rfl
  · rintro ⟨w, hw, a, b⟩
    exact (h w hw (le w hw a)).2 b
  · unfold csO
    rw [show nST (fr n (fun j => j)) D = 0 from (cnt_zero 256).mpr (fun w hw => ob_f (fun e => e.2 (le w hw e.1))), show nRU (fr n (fun j => j)) D = cnt (ob (fun w => D w = 1)) 256 from cnt_ext 256 (fun r hr => ob_cg (ru r hr))]
    omega
end BS
theorem imax_n {a b : Nat} (ha : a < 2 ^ 31) (hb : b < 2 ^ 31) : imax (nI a) (nI b) = nI (max a b) := by
  unfold imax
  by_cases h : a < b
  · rw [if_pos (nI_lt h hb), show max a b = b by omega]
  · rw [if_neg (nI_nlt (by omega) ha), show max a b = a by omega]
theorem unl_y {N h : Nat} {υ : Hp} (hN : 1000 ≤ N) (hh : h < 8) : (UN (υ 2) (υ 23) h ∧ f_Ly_hasUnlike N 22 2 υ (nI h) = some (1, υ)) ∨ (¬ UN (υ 2) (υ 23) h ∧ f_Ly_hasUnlike N 22 2 υ (nI h) = some (0, υ)) := by
  unfold f_Ly_hasUnlike
  refine lup (fun n' (s : Int32) => f_Ly_hasUnlike_L2 N 22 2 n' υ (nI h) s) (fun i s => (∀ j, j < i → ¬ (υ 23 j = υ 23 h ∧ υ 2 j ≠ υ 2 h)) ∧ s = nI i) (fun z => (UN (υ 2) (υ 23) h ∧ z = some (1, υ)) ∨ (¬ UN (υ 2) (υ 23) h ∧ z = some (0, υ))) 8 ?_ ?_ N 0 0 (Nat.zero_le _) (by omega) ⟨fun j hj => absurd hj (Nat.not_lt_zero j), rfl⟩
  · rintro n' s ⟨g1, g2⟩
    subst g2
    refine Or.inr ⟨fun ⟨j, a, b, c⟩ => g1 j a ⟨b, c⟩, ?_⟩
    show f_Ly_hasUnlike_L2b N 22 2 _ _ _ _ = _
    unfold f_Ly_hasUnlike_L2b
    rw [if_pos (show (8 : Int32) ≤ nI 8 from by decide)]
  · rintro n' i s hi ⟨g1, g2⟩
    subst g2
    have st : ¬ (υ 23 i = υ 23 h ∧ υ 2 i ≠ υ 2 h) → ∃ s', f_Ly_hasUnlike_L2 N 22 2 n' υ (nI h) (nI (i + 1)) = f_Ly_hasUnlike_L2 N 22 2 n' υ (nI h) s' ∧ (∀ j, j < i + 1 → ¬ (υ 23 j = υ 23 h ∧ υ 2 j ≠ υ 2 h)) ∧ s' = nI (i + 1) := fun e => ⟨_, rfl, fun j hj => by
      by_cases q : j = i
      · subst q; exact e
      · exact g1 j (by omega), rfl⟩
    show (_ ∧ f_Ly_hasUnlike_L2b N 22 2 _ υ (nI h) (nI i) = _ ∨ _ ∧ f_Ly_hasUnlike_L2b N 22 2 _ υ (nI h) (nI i) = _) ∨ ∃ s', f_Ly_hasUnlike_L2b N 22 2 _ υ (nI h) (nI i) = _ ∧ _
    unfold f_Ly_hasUnlike_L2b
    rw [if_neg (show ¬ (8 : Int32) ≤ nI i from nI_ge (b := 8) hi (by omega)), ogd_t _ (inb_n hi (by omega)), ogd_t _ (inb_n hh (by omega)), nI_clamp (n := i) (by omega), nI_clamp (n := h) (by omega)]
    by_cases q1 : υ 23 i = υ 23 h
    · rw [if_pos (show υ (22 + 1) i = υ (22 + 1) h from q1), ogd_t _ (inb_n hi (by omega)), ogd_t _ (inb_n hh (by omega))]
      by_cases q2 : υ 2 i = υ 2 h
      · rw [if_pos q2, ilet_s, nI_1]
        exact Or.inr (st (fun e => e.2 q2))
      · rw [if_neg q2]
        exact Or.inl (Or.inl ⟨⟨i, hi, q1, q2⟩, rfl⟩)
    · rw [if_neg (show ¬ υ (22 + 1) i = υ (22 + 1) h from q1), ilet_s, nI_1]
      exact Or.inr (st (fun e => q1 e.1))
def cCh (k j : Nat) : Bool := k == 24 || (k == 22 && (j == 2 || j == 3 || j == 4)) || (k == 21 && j == 3)
theorem cheap_y {N h k L rp sp : Nat} {υ : Hp} {D B : Nat → Int32} (hN : 1000 ≤ N) (hh : h < 8) (hk : k ≤ 8) (h2 : υ 5 2 = 0 ∨ υ 5 2 = 1) (h3 : υ 5 3 = nI rp) (h4 : υ 5 4 = nI sp) (hrp : rp ≤ 99) (hsp : sp ≤ 99) (hL : υ 21 4 = nI L) (hL2 : L < 2 ^ 31) (hv : RV (υ 23)) (hz : ∀ j, k ≤ j → j < 8 → υ 23 j = (-1)) (hQ : RB (υ 19) D) (hB : RB (υ 4) B) : ∃ υ', Sx cCh υ υ' ∧ ((((υ 5 2 = 1 → ¬ UN (υ 2) (υ 23) h) ∧ ¬ BRD (υ 23) D B ∧ csO rp sp (υ 23) D < L) ∧ f_Sk_isCheaper N 21 1 5 18 υ (nI h) (nI k) = some (1, υ') ∧ υ' 21 3 = nI (csO rp sp (υ 23) D)) ∨ (¬ ((υ 5 2 = 1 → ¬ UN (υ 2) (υ 23) h) ∧ ¬ BRD (υ 23) D B ∧ csO rp sp (υ 23) D < L) ∧ f_Sk_isCheaper N 21 1 5 18 υ (nI h) (nI k) = some (0, υ'))) := by
  obtain ⟨υ1, d1, d2, d3, d4, d5, _⟩ := draw22 (N := N) (k := k) (τ := υ) (D := D) (Bq := B) hN hk hv hz hQ hB
  have hcs := csO_le (ρ := υ 23) (D := D) hrp hsp
  have s1 : Sx cCh υ υ1 := d2.mono (fun k j q => by
    unfold cCh at q
    unfold cD22
    simp only [Bool.or_eq_false_iff, Bool.and_eq_false_iff, beq_eq_false_iff_ne] at q ⊢
    omega)
  have s2 : Sx cCh υ (upR υ1 21 (upd (υ1 21) 3 (nI (csO rp sp (υ 23) D)))) := s1.tr (Sx.ud rfl)
  have key : ((¬ BRD (υ 23) D B ∧ csO rp sp (υ 23) D < L) ∧ f_Sk_isCheaper_J25 N 21 1 5 18 υ (nI k) = some (1, upR υ1 21 (upd (υ1 21) 3 (nI (csO rp sp (υ 23) D))))) ∨ (¬ (¬ BRD (υ 23) D B ∧ csO rp sp (υ 23) D < L) ∧ f_Sk_isCheaper_J25 N 21 1 5 18 υ (nI k) = some (0, upR υ1 21 (upd (υ1 21) 3 (nI (csO rp sp (υ 23) D))))) := by
    unfold f_Sk_isCheaper_J25
    rw [d1, obd_s]
    unfold f_La_costOf
    rw [show υ1 (21 + 1) 2 = _ from d3, show υ1 (21 + 1) 3 = _ from d4, s1 5 3 rfl, s1 5 4 rfl, h3, h4, pk_mul, pk_mul, nI_add, obd_s, ilet_s]
    show ((_ ∧ (if υ1 22 4 = 0 then (if υ1 21 4 ≤ nI (csO rp sp (υ 23) D) then _ else _) else _) = _) ∨ (_ ∧ (if υ1 22 4 = 0 then (if υ1 21 4 ≤ nI (csO rp sp (υ 23) D) then _ else _) else _) = _))
    rw [d2 21 4 rfl, hL]
    rcases d5 with ⟨e, f⟩ | ⟨e, f⟩
    · rw [if_pos e]
      by_cases q : csO rp sp (υ 23) D < L
      · rw [if_neg (nI_ge q hL2)]
        exact Or.inl ⟨⟨f, q⟩, rfl⟩
      · rw [if_pos (nI_le (by omega) (by omega))]
        exact Or.inr ⟨fun g => q g.2, rfl⟩
    · rw [if_neg (by rw [e]; decide)]
      exact Or.inr ⟨fun g => g.1 f, rfl⟩
  unfold f_Sk_isCheaper
  rcases h2 with e | e
  · rw [if_pos e]
    refine ⟨_, s2, ?_⟩
    rcases key with ⟨a, b⟩ | ⟨a, b⟩
    · exact Or.inl ⟨⟨fun q => absurd (e.symm.trans q) (by decide), a⟩, b, rfl⟩
    · exact Or.inr ⟨fun q => a q.2, b⟩
  · rw [if_neg (by rw [e]; decide)]
    rcases unl_y (N := N) (υ := υ) hN hh with ⟨u, v⟩ | ⟨u, v⟩
    · refine ⟨υ, Sx.rf, Or.inr ⟨fun q => q.1 e u, ?_⟩⟩
      show obd (f_Ly_hasUnlike N 22 2 υ (nI h)) _ = _
      rw [v, obd_s, if_neg (by decide)]
    · refine ⟨_, s2, ?_⟩
      have g : ∀ K, obd (f_Ly_hasUnlike N (21 + 1) (1 + 1) υ (nI h)) K = K 0 υ := fun K => by
        show obd (f_Ly_hasUnlike N 22 2 υ (nI h)) _ = _
        rw [v, obd_s]
      rw [g, if_pos rfl]
      rcases key with ⟨a, b⟩ | ⟨a, b⟩
      · exact Or.inl ⟨⟨fun _ => u, a⟩, b, rfl⟩
      · exact Or.inr ⟨fun q => a q.2, b⟩
theorem total_y {N : Nat} {τ : Hp} {D : Nat → Int32} (hN : 1000 ≤ N) (hQ : RB (τ 19) D) : f_Nd_total N 18 τ = some (nI (cnt (ob (fun w => D w = 1)) 256), τ) := by
  have hc : cnt (ob (fun w => D w = 1)) 256 = sN (fun p => pc (nu (τ 19) p)) 64 := by
    rw [show (256 : Nat) = 4 * 64 from rfl, cnt_4]
    refine sN_cg 64 (fun p hp => cnt_ext 4 (fun d hd => ?_))
    have := (hQ.b hp).2.2 d hd
    by_cases q : (nu (τ 19) p).testBit d = true
    · rw [q]; exact ob_t (this.mp q)
    · rw [Bool.eq_false_iff.mpr q]; exact ob_f (fun e => q (this.mpr e))
  unfold f_Nd_total
  rw [hc]
  refine lup (fun n' (s : Int32 × Int32) => f_Nd_total_L4 N 18 n' τ s.1 s.2) (fun i s => s.1 = nI (sN (fun p => pc (nu (τ 19) p)) i) ∧ s.2 = nI i) (fun z => z = some (nI (sN (fun p => pc (nu (τ 19) p)) 64), τ)) 64 ?_ ?_ N 0 (0, 0) (Nat.zero_le _) (by omega) ⟨rfl, rfl⟩
  · rintro n' ⟨s1, s2⟩ ⟨g1, g2⟩
    dsimp only at g1 g2 ⊢
    subst g1; subst g2
    show f_Nd_total_L4b N 18 _ _ _ _ = _
    unfold f_Nd_total_L4b
    rw [if_pos (show (64 : Int32) ≤ nI 64 from by decide)]
  · rintro n' i ⟨s1, s2⟩ hi ⟨g1, g2⟩
    dsimp only at g1 g2 ⊢
    subst g1; subst g2
    refine Or.inr ⟨(nI (sN (fun p => pc (nu (τ 19) p)) (i + 1)), nI (i + 1)), ?_, rfl, rfl⟩
    show f_Nd_total_L4b N 18 _ _ _ _ = _
    unfold f_Nd_total_L4b
    have hb := hQ.b hi
    rw [if_neg (show ¬ (64 : Int32) ≤ nI i from nI_ge (b := 64) hi (by omega)), ogd_t _ (inb_n hi (by omega)), nI_clamp (n := i) (by omega), bc_eq, obd_s, ilet_s, ilet_s, nI_1]
    show f_Nd_total_L4 N 18 n' τ (_ + bcI (τ 19 i)) _ = _
    rw [hb.2.1, bc1 _ hb.1, nI_add]
    rfl
