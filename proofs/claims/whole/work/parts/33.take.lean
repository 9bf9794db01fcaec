def WG (τ : Hp) (t : Nat) (day : Int32) (w : Nat) : Int32 := wS (τ 7) (τ 8) (τ 9) (nI w) day (τ 5 0) t
def ND (τ : Hp) (t : Nat) (day : Int32) (w : Nat) : Int32 := if τ 48 w = 1 ∨ (τ 49 w = 0 ∧ ¬ WG τ t day w < τ 5 1) then 1 else 0
theorem ND_01 (τ : Hp) (t : Nat) (day : Int32) (w : Nat) : ND τ t day w = 0 ∨ ND τ t day w = 1 := by
  unfold ND
  by_cases q : τ 48 w = 1 ∨ (τ 49 w = 0 ∧ ¬ WG τ t day w < τ 5 1)
  · rw [if_pos q]; exact Or.inr rfl
  · rw [if_neg q]; exact Or.inl rfl
theorem wS_nat {n t : Nat} {w d c w' d' c' : Nat → Int32} {x day win : Int32} (h : ID n t w d c w' d' c') : ∀ i, i ≤ t → ∃ y, y ≤ 999 * i ∧ wS w d c x day win i = nI y
  | 0, _ => ⟨0, by omega, rfl⟩
  | i + 1, hi => by
    obtain ⟨y, h1, h2⟩ := wS_nat h (x := x) (day := day) (win := win) i (by omega)
    obtain ⟨a, b, z, k1, k2, k3, k4, k5, k6, k7, k8, k9, k10⟩ := h i (by omega)
    rw [wS]
    by_cases q : w i = x ∧ ¬ day < d i ∧ ¬ d i ≤ day - win
    · rw [if_pos q]; exact ⟨y + z, by omega, by rw [h2, k9, nI_add]⟩
    · rw [if_neg q]; exact ⟨y, by omega, h2⟩
theorem wS_z {n t : Nat} {w d c w' d' c' : Nat → Int32} {x : Nat} {day win : Int32} (h : ID n t w d c w' d' c') (hx : x < 256) (hn : ¬ WY n x) : ∀ i, i ≤ t → wS w d c (nI x) day win i = 0
  | 0, _ => rfl
  | i + 1, hi => by
    obtain ⟨a, b, z, k1, k2, k3, k4, k5, k6, k7, k8, k9, k10⟩ := h i (by omega)
    rw [wS, if_neg (fun q => hn (by
      have := (nI_eq (by have := k1.1; omega) (by omega)).mp (k5.symm.trans q.1)
      rw [← this]; exact k1)), wS_z h hx hn i (by omega)]
theorem ND_WY {τ : Hp} {n t wi le rp sp w : Nat} {day : Int32} (hT : IvT τ n t) (hB : IvB τ n) (hL : IvL τ wi le rp sp) (hw : w < 256) (h : ND τ t day w = 1) : WY n w ∧ τ 49 w = 0 := by
  obtain ⟨l1, l2, l3, l4, l5, l6, l7, l8, l9, _⟩ := hL
  unfold ND at h
  by_cases q : τ 48 w = 1 ∨ (τ 49 w = 0 ∧ ¬ WG τ t day w < τ 5 1)
  · rcases q with q | q
    · exact (hB.2.2 w hw).1 q
    · refine ⟨Classical.byContradiction (fun hn => q.2 ?_), q.1⟩
      unfold WG
      rw [wS_z hT.2.2.2 hw hn t (Nat.le_refl _), l9]
      exact nI_lt (a := 0) (by omega) (by omega)
  · rw [if_neg q] at h; exact absurd h (by decide)
theorem sumAll_y {N n t : Nat} {τ : Hp} {day win : Int32} (hN : 1000 ≤ N) (hT : IvT τ n t) : ∃ ρ : Nat → Int32, f_Di_sumAll N 6 20 τ day win = some (0, upR τ 20 ρ) ∧ ∀ w, w < 256 → ρ w = wS (τ 7) (τ 8) (τ 9) (nI w) day win t := by
  obtain ⟨t1, t2, t3, t4⟩ := hT
  unfold f_Di_sumAll
  obtain ⟨ρ0, f1, f2⟩ := fill_y (N := N) (q0 := 20) (L := 256) (τ := τ) (v := 0) hN rfl (by omega)
  rw [f1, obd_s]
  refine lup (fun n' (s : (Nat → Int32) × Int32) => f_Di_sumAll_L8 N 6 20 n' (upR τ 20 s.1) day win s.2) (fun i s => (∀ w, w < 256 → s.1 w = wS (τ 7) (τ 8) (τ 9) (nI w) day win i) ∧ s.2 = nI i) (fun z => ∃ ρ : Nat → Int32, z = some (0, upR τ 20 ρ) ∧ ∀ w, w < 256 → ρ w = wS (τ 7) (τ 8) (τ 9) (nI w) day win t) t ?_ ?_ N 0 (ρ0, 0) (Nat.zero_le _) (by omega) ⟨f2, rfl⟩
  · rintro n' ⟨ρ, s2⟩ ⟨g1, g2⟩
    dsimp only at g1 g2 ⊢
    subst g2
    refine ⟨ρ, ?_, g1⟩
    show f_Di_sumAll_L8b N 6 20 _ _ _ _ _ = _
    unfold f_Di_sumAll_L8b
    show (if τ 6 3 ≤ nI t then _ else _) = _
    rw [t2, if_pos (nI_le (Nat.le_refl _) (by omega))]
  · rintro n' i ⟨ρ, s2⟩ hi ⟨g1, g2⟩
    dsimp only at g1 g2 ⊢
    subst g2
    obtain ⟨a, b, z, k1, k2, k3, k4, k5, k6, k7, k8, k9, k10⟩ := t4 i hi
    have ha := k1.1
    refine Or.inr ?_
    show ∃ s' : (Nat → Int32) × Int32, f_Di_sumAll_L8b N 6 20 _ _ _ _ _ = _ ∧ _
    unfold f_Di_sumAll_L8b
    show ∃ s' : (Nat → Int32) × Int32, (if τ 6 3 ≤ nI i then _ else _) = _ ∧ _
    rw [t2, if_neg (nI_ge hi (by omega)), within_y (τ := upR τ 20 ρ) (t := t) (by omega), obd_s]
    show ∃ s' : (Nat → Int32) × Int32, (if (if ¬ day < τ 8 i ∧ ¬ τ 8 i ≤ day - win then (1 : Int32) else 0) = 0 then _ else _) = _ ∧ _
    by_cases q : ¬ day < τ 8 i ∧ ¬ τ 8 i ≤ day - win
    · rw [if_pos q, if_neg (by decide), ogd_t _ (inb_n (i := i) (by omega) (by omega)), nI_clamp (by omega)]
      show ∃ s' : (Nat → Int32) × Int32, ogd (inb (τ 7 i) 256) (ogd _ (ogd (inb (τ 7 i) 256) (ilet (upR (upR τ 20 ρ) 20 (upd ρ (Int32.toNatClampNeg (τ 7 i)) (ρ (Int32.toNatClampNeg (τ 7 i)) + τ 9 i))) _))) = _ ∧ _
      rw [k5, ogd_t _ (inb_n ha (by omega)), ogd_t _ (inb_n (i := i) (by omega) (by omega)), ogd_t _ (inb_n ha (by omega)), ilet_s, ilet_s, nI_1, nI_clamp (by omega), upR_2]
      refine ⟨(upd ρ a (ρ a + τ 9 i), nI (i + 1)), rfl, fun w hw => ?_, rfl⟩
      show upd ρ a (ρ a + τ 9 i) w = _
      rw [upd_at, wS]
      by_cases q2 : w = a
      · rw [if_pos q2, if_pos ⟨by rw [k5, q2], q⟩, q2, g1 a ha]
      · rw [if_neg q2, if_neg (fun e => q2 ((nI_eq (by omega) (by omega)).mp (k5.symm.trans e.1)).symm), g1 w hw]
    · rw [if_neg q, if_pos rfl, ilet_s, nI_1]
      refine ⟨(ρ, nI (i + 1)), rfl, fun w hw => ?_, rfl⟩
      rw [wS, if_neg (fun e => q e.2)]; exact g1 w hw
theorem or4 : ∀ m, m < 16 → ∀ y, y < 4 → (nI m ||| (1 <<< (nI y &&& 31))) = nI (m ||| 2 ^ y) ∧ m ||| 2 ^ y < 16 := by decide +kernel
theorem doors_y {N n p : Nat} {υ : Hp} {le : Int32} {D : Nat → Int32} (hN : 1000 ≤ N) (hB : IvB υ n) (hp : p < 64) (hD : ∀ d, d < 4 → D (4 * p + d) = if υ 48 (4 * p + d) = 1 ∨ (υ 49 (4 * p + d) = 0 ∧ ¬ υ 20 (4 * p + d) < le) then 1 else 0) : ∃ m, m < 16 ∧ f_Nd_doorsOf N 18 1 υ (nI p) le = some (nI m, υ) ∧ ∀ d, d < 4 → D (4 * p + d) = if m.testBit d then 1 else 0 := by
  unfold f_Nd_doorsOf
  refine lup (fun n' (s : Int32 × Int32) => f_Nd_doorsOf_L6 N 18 1 n' υ (nI p) le s.1 s.2) (fun i s => (∃ m, m < 16 ∧ s.1 = nI m ∧ ∀ d, d < 4 → (m.testBit d = true ↔ (d < i ∧ D (4 * p + d) = 1))) ∧ s.2 = nI i) (fun z => ∃ m, m < 16 ∧ z = some (nI m, υ) ∧ ∀ d, d < 4 → D (4 * p + d) = if m.testBit d then 1 else 0) 4 ?_ ?_ N 0 (0, 0) (Nat.zero_le _) (by omega) ⟨⟨0, by omega, rfl, fun d _ => ⟨fun e => (by rw [Nat.zero_testBit] at e; cases e), fun e => absurd e.1 (Nat.not_lt_zero d)⟩⟩, rfl⟩
  · rintro n' ⟨s1, s2⟩ ⟨⟨m, g1, g2, g3⟩, g4⟩
    dsimp only at g1 g2 g3 g4 ⊢
    subst g2; subst g4
    refine ⟨m, g1, ?_, fun d hd => ?_⟩
    · show f_Nd_doorsOf_L6b N 18 1 _ υ _ _ _ _ = _
      unfold f_Nd_doorsOf_L6b
      rw [if_pos (show (4 : Int32) ≤ nI 4 by decide)]
    · by_cases q : m.testBit d = true
      · rw [if_pos q]; exact ((g3 d hd).mp q).2
      · rw [if_neg q]
        rw [hD d hd]
        by_cases q2 : υ 48 (4 * p + d) = 1 ∨ (υ 49 (4 * p + d) = 0 ∧ ¬ υ 20 (4 * p + d) < le)
        · exact absurd ((g3 d hd).mpr ⟨hd, by rw [hD d hd, if_pos q2]⟩) q
        · rw [if_neg q2]
  · rintro n' i ⟨s1, s2⟩ hi ⟨⟨m, g1, g2, g3⟩, g4⟩
    dsimp only at g1 g2 g3 g4 ⊢
    subst g2; subst g4
    refine Or.inr ?_
    show ∃ s' : Int32 × Int32, f_Nd_doorsOf_L6b N 18 1 _ υ _ _ _ _ = _ ∧ _
    unfold f_Nd_doorsOf_L6b
    have hnd := isNeed_y (N := N) (τ := υ) (a := p / 8) (b := p % 8) (d := i) (x := υ 20 (4 * p + i)) (le := le) hB hi (by omega)
    rw [show 8 * (p / 8) + p % 8 = p by omega, show 32 * (p / 8) + 4 * (p % 8) + i = 4 * p + i by omega, ← hD i hi] at hnd
    rw [if_neg (show ¬ (4 : Int32) ≤ nI i from nI_ge (b := 4) hi (by omega)), li4, pk_mul, nI_add, show p * 4 + i = 4 * p + i by omega, ogd_t _ (inb_n (i := 4 * p + i) (by omega) (by omega)), nI_clamp (by omega)]
    show ∃ s' : Int32 × Int32, obd (f_Nt_isNeed N 1 υ (nI p) (nI i) (υ 20 (4 * p + i)) le) _ = _ ∧ _
    rw [hnd, obd_s]
    by_cases q : D (4 * p + i) = 1
    · rw [if_neg (by rw [q]; decide), ilet_s, ilet_s, nI_1, (or4 m g1 i hi).1]
      refine ⟨(nI (m ||| 2 ^ i), nI (i + 1)), rfl, ⟨m ||| 2 ^ i, (or4 m g1 i hi).2, rfl, fun d hd => ?_⟩, rfl⟩
      rw [tb_or, g3 d hd, Nat.testBit_two_pow, decide_eq_true_eq]
      constructor
      · rintro (⟨a, b⟩ | a)
        · exact ⟨by omega, b⟩
        · subst a; exact ⟨by omega, q⟩
      · rintro ⟨a, b⟩
        rcases Nat.lt_or_ge d i with q2 | q2
        · exact Or.inl ⟨q2, b⟩
        · exact Or.inr (by omega)
    · have q0 : D (4 * p + i) = 0 := by
        rw [hD i hi] at q ⊢
        by_cases q2 : υ 48 (4 * p + i) = 1 ∨ (υ 49 (4 * p + i) = 0 ∧ ¬ υ 20 (4 * p + i) < le)
        · rw [if_pos q2] at q; exact absurd rfl q
        · rw [if_neg q2]
      rw [if_pos q0, ilet_s, nI_1]
      refine ⟨(nI m, nI (i + 1)), rfl, ⟨m, g1, rfl, fun d hd => (g3 d hd).trans ⟨fun ⟨a, b⟩ => ⟨by omega, b⟩, fun ⟨a, b⟩ => ⟨?_, b⟩⟩⟩, rfl⟩
      rcases Nat.lt_or_ge d i with q2 | q2
      · exact q2
      · have : d = i := by omega
        subst this; exact absurd b q
def cTk (k _j : Nat) : Bool := k == 19 || k == 20
theorem take_y {N n t : Nat} {τ : Hp} {day : Int32} (hN : 1000 ≤ N) (hT : IvT τ n t) (hB : IvB τ n) : ∃ υ, f_Nd_take N 18 1 5 6 τ day = some (0, υ) ∧ Sx cTk τ υ ∧ RB (υ 19) (ND τ t day) ∧ ∀ w, w < 256 → υ 20 w = WG τ t day w := by
  unfold f_Nd_take
  obtain ⟨ρ, s1, s2⟩ := sumAll_y (N := N) (τ := τ) (day := day) (win := τ 5 0) hN hT
  rw [show f_Di_sumAll N 6 (18 + 2) τ day (τ 5 0) = _ from s1, obd_s]
  refine lup (fun n' (s : Hp × Int32) => f_Nd_take_L17 N 18 1 5 6 n' s.1 s.2) (fun i s => (Sx cTk τ s.1 ∧ (∀ w, w < 256 → s.1 20 w = WG τ t day w) ∧ ∀ p, p < i → ∃ m, m < 16 ∧ s.1 19 p = nI m ∧ ∀ d, d < 4 → ND τ t day (4 * p + d) = if m.testBit d then 1 else 0) ∧ s.2 = nI i) (fun z => ∃ υ, z = some (0, υ) ∧ Sx cTk τ υ ∧ RB (υ 19) (ND τ t day) ∧ ∀ w, w < 256 → υ 20 w = WG τ t day w) 64 ?_ ?_ N 0 (upR τ 20 ρ, 0) (Nat.zero_le _) (by omega) ⟨⟨Sx.u (fun j hj => by cases hj), s2, fun p hp => absurd hp (Nat.not_lt_zero p)⟩, rfl⟩
  · rintro n' ⟨υ, s2⟩ ⟨⟨g1, g2, g3⟩, g4⟩
    dsimp only at g1 g2 g3 g4 ⊢
    subst g4
    refine ⟨υ, ?_, g1, g3, g2⟩
    show f_Nd_take_L17b N 18 1 5 6 _ υ _ = _
    unfold f_Nd_take_L17b
    rw [if_pos (show (64 : Int32) ≤ nI 64 by decide)]
  · rintro n' i ⟨υ, s2⟩ hi ⟨⟨g1, g2, g3⟩, g4⟩
    dsimp only at g1 g2 g3 g4 ⊢
    subst g4
    have hB1 : IvB υ n := hB.cg g1 (fun _ => ⟨rfl, rfl, rfl, rfl⟩)
    obtain ⟨m, m1, m2, m3⟩ := doors_y (N := N) (υ := υ) (p := i) (le := υ 5 1) (D := ND τ t day) hN hB1 hi (fun d hd => by
      unfold ND
      rw [g1 48 _ rfl, g1 49 _ rfl, g1 5 1 rfl, g2 _ (show 4 * i + d < 256 by omega)])
    refine Or.inr ⟨(upR υ 19 (upd (υ 19) i (nI m)), nI (i + 1)), ?_, ⟨g1.tr (Sx.ud rfl), g2, fun p hp => ?_⟩, rfl⟩
    · show f_Nd_take_L17b N 18 1 5 6 _ υ _ = _
      unfold f_Nd_take_L17b
      rw [if_neg (show ¬ (64 : Int32) ≤ nI i from nI_ge (b := 64) hi (by omega)), m2, obd_s, ogd_t _ (inb_n hi (by omega)), ilet_s, ilet_s, nI_1, nI_clamp (by omega)]
    · show ∃ m', m' < 16 ∧ upd (υ 19) i (nI m) p = nI m' ∧ _
      rw [upd_at]
      by_cases q : p = i
      · rw [if_pos q]; subst q; exact ⟨m, m1, rfl, m3⟩
      · rw [if_neg q]; exact g3 p (by omega)
def cDu (k _j : Nat) : Bool := k == 50 || k == 51
theorem dues_y {N n t wi le rp sp d : Nat} {τ υ0 : Hp} (hN : 1000 ≤ N) (hn : n ≤ 8) (hH : τ 42 1 = nI n) (hT : IvT τ n t) (hB : IvB τ n) (hL : IvL τ wi le rp sp) (h42 : ∀ j, (j = 1 ∨ j = 4 ∨ j = 10 ∨ j = 11) → υ0 42 j = τ 42 j) (hr : ∀ k, (k = 3 ∨ k = 4 ∨ k = 48 ∨ k = 49 ∨ k = 45 ∨ k = 46 ∨ k = 47) → υ0 k = τ k) : ∃ υ, f_Mo_dues N 42 υ0 (nI d) = some (0, υ) ∧ Sx cDu υ0 υ ∧ ∀ w, w < 256 → υ 50 w = ND τ t (nI d) w ∧ υ 51 w = WG τ t (nI d) w := by
  obtain ⟨l1, l2, l3, l4, l5, l6, l7, l8, l9, l10, _⟩ := id hL
  unfold f_Mo_dues
  refine lup (fun n' (s : Hp × Int32) => f_Mo_dues_L2 N 42 n' s.1 (nI d) s.2) (fun i s => (Sx cDu υ0 s.1 ∧ ∀ w, w < i → s.1 50 w = ND τ t (nI d) w ∧ s.1 51 w = WG τ t (nI d) w) ∧ s.2 = nI i) (fun z => ∃ υ, z = some (0, υ) ∧ Sx cDu υ0 υ ∧ ∀ w, w < 256 → υ 50 w = ND τ t (nI d) w ∧ υ 51 w = WG τ t (nI d) w) 256 ?_ ?_ N 0 (υ0, 0) (Nat.zero_le _) (by omega) ⟨⟨Sx.rf, fun w hw => absurd hw (Nat.not_lt_zero w)⟩, rfl⟩
  · rintro n' ⟨υ, s2⟩ ⟨⟨g1, g2⟩, g3⟩
    dsimp only at g1 g2 g3 ⊢
    subst g3
    refine ⟨υ, ?_, g1, g2⟩
    show f_Mo_dues_L2b N 42 _ υ _ _ = _
    unfold f_Mo_dues_L2b
    rw [if_pos (show (256 : Int32) ≤ nI 256 by decide)]
  · rintro n' i ⟨υ, s2⟩ hi ⟨⟨g1, g2⟩, g3⟩
    dsimp only at g1 g2 g3 ⊢
    subst g3
    obtain ⟨r1, r2, r3, r4, r5⟩ := rule3 i hi
    have fin : ∀ a b, a = ND τ t (nI d) i → b = WG τ t (nI d) i → ∃ s' : Hp × Int32, f_Mo_dues_L2 N 42 n' (upR (upR υ 51 (upd (υ 51) i b)) 50 (upd (υ 50) i a)) (nI d) (nI (i + 1)) = f_Mo_dues_L2 N 42 n' s'.1 (nI d) s'.2 ∧ (Sx cDu υ0 s'.1 ∧ ∀ w, w < i + 1 → s'.1 50 w = ND τ t (nI d) w ∧ s'.1 51 w = WG τ t (nI d) w) ∧ s'.2 = nI (i + 1) := fun a b ea eb => by
      refine ⟨(_, nI (i + 1)), rfl, ⟨(g1.tr (Sx.ud rfl)).tr (Sx.ud (k := 50) rfl), fun w hw => ?_⟩, rfl⟩
      show upd (υ 50) i a w = _ ∧ upd (υ 51) i b w = _
      rw [upd_at, upd_at]
      by_cases q : w = i
      · rw [if_pos q, if_pos q, q]; exact ⟨ea, eb⟩
      · rw [if_neg q, if_neg q]; exact g2 w (by omega)
    refine Or.inr ?_
    show ∃ s' : Hp × Int32, f_Mo_dues_L2b N 42 _ υ _ _ = _ ∧ _
    unfold f_Mo_dues_L2b
    rw [if_neg (show ¬ (256 : Int32) ≤ nI i from nI_ge (b := 256) hi (by omega)), r4, r2, r3]
    have h1 : υ 42 1 = nI n := (g1 42 1 rfl).trans ((h42 1 (Or.inl rfl)).trans hH)
    by_cases q : WY n i
    · rw [mway_y hn h1 q.2.1 q.2.2.1 q.2.2.2 (by omega), obd_s, if_neg (nm1_ne (by omega))]
      unfold f_Mo_dues_J35 f_Mo_dues_J55
      have hwt := mweight_y (N := N) (τ := υ) (x := nI i) (day := nI d) hN hT.1 ((g1 42 4 rfl).trans ((h42 4 (by omega)).trans hT.2.2.1))
      have ew : wS (υ 45) (υ 46) (υ 47) (nI i) (nI d) (υ 42 10) t = WG τ t (nI d) i := by
        unfold WG
        rw [g1 42 10 rfl, h42 10 (by omega), l8, l7, g1.row 45 (fun _ => rfl), g1.row 46 (fun _ => rfl), g1.row 47 (fun _ => rfl), hr 45 (by omega), hr 46 (by omega), hr 47 (by omega)]
        exact wS_cg (fun j hj => by obtain ⟨a, b, c⟩ := hT.2.2.2.eqs j hj; exact ⟨a.symm, b.symm, c.symm⟩)
      rw [if_neg (by decide), hwt, obd_s, ogd_t _ (inb_n hi (by omega)), ilet_s, nI_clamp (by omega), if_neg (by decide), ogd_t _ (inb_n hi (by omega)), ew]
      have hB1 : IvB (upR υ 51 (upd (υ 51) i (WG τ t (nI d) i))) n := by
        unfold IvB
        show RB (υ 3) (υ 48) ∧ RB (υ 4) (υ 49) ∧ IB n (υ 48) (υ 49)
        rw [g1.row 3 (fun _ => rfl), g1.row 48 (fun _ => rfl), g1.row 4 (fun _ => rfl), g1.row 49 (fun _ => rfl), hr 3 (by omega), hr 48 (by omega), hr 4 (by omega), hr 49 (by omega)]
        exact hB
      have hnd := isNeeded_y (N := N) (τ := upR υ 51 (upd (υ 51) i (WG τ t (nI d) i))) (x := upR υ 51 (upd (υ 51) i (WG τ t (nI d) i)) 51 i) hB1 hi
      have hND : (if upR υ 51 (upd (υ 51) i (WG τ t (nI d) i)) 48 i = 1 ∨ (upR υ 51 (upd (υ 51) i (WG τ t (nI d) i)) 49 i = 0 ∧ ¬ upR υ 51 (upd (υ 51) i (WG τ t (nI d) i)) 51 i < upR υ 51 (upd (υ 51) i (WG τ t (nI d) i)) 42 11) then (1 : Int32) else 0) = ND τ t (nI d) i := by
        show (if υ 48 i = 1 ∨ (υ 49 i = 0 ∧ ¬ upd (υ 51) i (WG τ t (nI d) i) i < υ 42 11) then (1 : Int32) else 0) = _
        rw [upd_eq, g1.row 48 (fun _ => rfl), g1.row 49 (fun _ => rfl), g1 42 11 rfl, hr 48 (by omega), hr 49 (by omega), h42 11 (by omega), l10, ← l9]
        rfl
      rw [hND] at hnd
      show ∃ s' : Hp × Int32, obd (f_Mo_isNeeded N 42 (upR υ 51 (upd (υ 51) i (WG τ t (nI d) i))) (nI i) (upR υ 51 (upd (υ 51) i (WG τ t (nI d) i)) 51 i)) _ = _ ∧ _
      rw [hnd, obd_s]
      rcases ND_01 τ t (nI d) i with q2 | q2
      · rw [if_pos q2, ogd_t _ (inb_n hi (by omega)), ilet_s, ilet_s, nI_1]
        exact fin (nz 0) _ (by rw [q2]; rfl) rfl
      · rw [if_neg (by rw [q2]; decide), ogd_t _ (inb_n hi (by omega)), ilet_s, ilet_s, nI_1]
        exact fin (nz 1) _ (by rw [q2]; rfl) rfl
    · rw [mway_n hn h1 (fun ⟨a, b, d, ha, hb, hab, hd, e1, e2, e3⟩ => q (by
        have i1 := (nI_eq (by omega) (by omega)).mp e1
        have i2 := (nI_eq (by omega) (by omega)).mp e2
        exact ⟨hi, by omega, by omega, by omega⟩)), obd_s, if_pos rfl]
      unfold f_Mo_dues_J35 f_Mo_dues_J55
      rw [if_pos rfl, ogd_t _ (inb_n hi (by omega)), ilet_s, if_pos rfl, ogd_t _ (inb_n hi (by omega)), ilet_s, ilet_s, nI_1, nI_clamp (by omega)]
      refine fin (nz 0) 0 ?_ ?_
      · rcases ND_01 τ t (nI d) i with q2 | q2
        · rw [q2]; rfl
        · exact absurd (ND_WY hT hB hL hi q2).1 q
      · unfold WG; rw [wS_z hT.2.2.2 hi q t (Nat.le_refl _)]
