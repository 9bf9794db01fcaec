def TR (ρ : Nat → Int32) (w : Nat) : Prop := w / 32 ≠ w / 4 % 8 ∧ ρ (w / 32) ≠ (-1) ∧ ρ (w / 4 % 8) ≠ (-1)
theorem tried_y {N n w : Nat} {τ : Hp} (hn : n ≤ 8) (h1 : τ 42 1 = nI n) (hz : ∀ j, n ≤ j → j < 8 → τ 54 j = (-1)) (hw : w < 256) : (TR (τ 54) w → f_Mo_isTried N 42 τ (nI w) = some (1, τ)) ∧ (¬ TR (τ 54) w → f_Mo_isTried N 42 τ (nI w) = some (0, τ)) := by
  obtain ⟨r1, r2, r3, r4, r5⟩ := rule3 w hw
  unfold f_Mo_isTried
  rw [r4, r2, r3]
  by_cases q : w / 32 < n ∧ w / 4 % 8 < n ∧ w / 32 ≠ w / 4 % 8
  · rw [mway_y hn h1 q.1 q.2.1 q.2.2 (by omega), obd_s, if_neg (nm1_ne (by omega)), ogd_t _ (inb_n (i := w / 32) (by omega) (by omega)), ogd_t _ (inb_n (i := w / 4 % 8) (by omega) (by omega)), nI_clamp (by omega), nI_clamp (by omega)]
    show (_ → (if τ 54 (w / 32) = (-1) then some (0, τ) else if τ 54 (w / 4 % 8) = (-1) then some (0, τ) else some (1, τ)) = _) ∧ (_ → (if τ 54 (w / 32) = (-1) then some (0, τ) else if τ 54 (w / 4 % 8) = (-1) then some (0, τ) else some (1, τ)) = _)
    by_cases q1 : τ 54 (w / 32) = (-1)
    · rw [if_pos q1]; exact ⟨fun e => absurd q1 e.2.1, fun _ => rfl⟩
    · rw [if_neg q1]
      by_cases q2 : τ 54 (w / 4 % 8) = (-1)
      · rw [if_pos q2]; exact ⟨fun e => absurd q2 e.2.2, fun _ => rfl⟩
      · rw [if_neg q2]; exact ⟨fun _ => rfl, fun e => absurd ⟨q.2.2, q1, q2⟩ e⟩
  · rw [mway_n hn h1 (fun ⟨a, b, d, ha, hb, hab, hd, e1, e2, e3⟩ => q (by
      have i1 := (nI_eq (by omega) (by omega)).mp e1
      have i2 := (nI_eq (by omega) (by omega)).mp e2
      omega)), obd_s, if_pos rfl]
    refine ⟨fun e => ?_, fun _ => rfl⟩
    exfalso
    rcases Nat.lt_or_ge (w / 32) n with q1 | q1
    · rcases Nat.lt_or_ge (w / 4 % 8) n with q2 | q2
      · exact q ⟨q1, q2, e.1⟩
      · exact e.2.2 (hz _ q2 (by omega))
    · exact e.2.1 (hz _ q1 (by omega))
theorem mbetween_y {N w x y : Nat} {τ : Hp} (hw : w < 256) (e1 : τ 54 (w / 32) = nI x) (e2 : τ 54 (w / 4 % 8) = nI y) : f_Mo_between N 42 τ (nI w) = some (nI (32 * x + 4 * y + w % 4), τ) := by
  obtain ⟨r1, r2, r3, r4, r5⟩ := rule3 w hw
  unfold f_Mo_between
  rw [r4, r2, r3, ogd_t _ (inb_n (i := w / 32) (by omega) (by omega)), ogd_t _ (inb_n (i := w / 4 % 8) (by omega) (by omega)), nI_clamp (by omega), nI_clamp (by omega)]
  show some (32 * τ 54 (w / 32) + 4 * τ 54 (w / 4 % 8) + nI (w % 4), τ) = _
  rw [e1, e2, li32, li4, pk_mul, pk_mul, nI_add, nI_add]
theorem cnt_ins {p p' : Nat → Bool} {r n : Nat} (hr : r < n) (h : ∀ k, k < n → k ≠ r → p' k = p k) (h0 : p r = false) (h1 : p' r = true) : cnt p' n = cnt p n + 1 := by
  rw [← cnt_ne h1 n hr]
  congr 1
  refine cnt_ext n (fun k hk => ?_)
  by_cases q : k = r
  · rw [q, h0, beq_self_eq_true]; rfl
  · rw [h k hk q, beq_eq_false_iff_ne.mpr q]; rfl
def RUB (ρ D : Nat → Int32) (B r : Nat) : Prop := r / 32 ≠ r / 4 % 8 ∧ ∃ w, w < B ∧ ρ (w / 32) = nI (r / 32) ∧ ρ (w / 4 % 8) = nI (r / 4 % 8) ∧ w % 4 = r % 4 ∧ D w = 1
def cCo (k j : Nat) : Bool := k == 56 || (k == 42 && j == 26)
def R01 (row : Nat → Int32) (P : Nat → Prop) : Prop := ∀ r, r < 256 → (P r → row r = 1) ∧ (¬ P r → row r = 0)
theorem R01.cg {row : Nat → Int32} {P Q : Nat → Prop} (h : R01 row P) (e : ∀ r, r < 256 → (P r ↔ Q r)) : R01 row Q := fun r hr => ⟨fun q => (h r hr).1 ((e r hr).mpr q), fun q => (h r hr).2 (fun p => q ((e r hr).mp p))⟩
theorem R01.one {row : Nat → Int32} {P : Nat → Prop} (h : R01 row P) {r : Nat} (hr : r < 256) : row r = 1 ↔ P r := ⟨fun e => Classical.byContradiction fun q => by rw [(h r hr).2 q] at e; exact absurd e (by decide), (h r hr).1⟩
theorem costs_1 {N n : Nat} {τ : Hp} {D : Nat → Int32} (hN : 1000 ≤ N) (hn : n ≤ 8) (h1 : τ 42 1 = nI n) (hv : RV (τ 54)) (hz : ∀ j, n ≤ j → j < 8 → τ 54 j = (-1)) (hD : ∀ w, w < 256 → τ 50 w = D w ∧ (D w = 0 ∨ D w = 1)) : ∃ υ, f_Mo_costs N 42 τ = f_Mo_costs_L116 N 42 N (upR υ 42 (upd (υ 42) 26 0)) (nI (nRU (τ 54) D)) 0 ∧ Sx cCo τ υ ∧ R01 (υ 56) (RUL (τ 54) D) := by
  have e1 : ∃ υ, f_Mo_costs N 42 τ = f_Mo_costs_L26 N 42 N υ 0 0 ∧ Sx cCo τ υ ∧ ∀ r, r < 256 → υ 56 r = 0 := by
    unfold f_Mo_costs
    refine lup (fun n' (s : Hp × Int32) => f_Mo_costs_L2 N 42 n' s.1 s.2) (fun i s => (Sx cCo τ s.1 ∧ ∀ r, r < i → s.1 56 r = 0) ∧ s.2 = nI i) (fun z => ∃ υ, z = f_Mo_costs_L26 N 42 N υ 0 0 ∧ Sx cCo τ υ ∧ ∀ r, r < 256 → υ 56 r = 0) 256 ?_ ?_ N 0 (τ, 0) (Nat.zero_le _) (by omega) ⟨⟨Sx.rf, fun r hr => absurd hr (Nat.not_lt_zero r)⟩, rfl⟩
    · rintro n' ⟨υ, s2⟩ ⟨⟨g1, g2⟩, g3⟩
      dsimp only at g1 g2 g3 ⊢
      subst g3
      refine ⟨υ, ?_, g1, g2⟩
      show f_Mo_costs_L2b N 42 _ υ _ = _
      unfold f_Mo_costs_L2b
      rw [if_pos (show (256 : Int32) ≤ nI 256 by decide)]
    · rintro n' i ⟨υ, s2⟩ hi ⟨⟨g1, g2⟩, g3⟩
      dsimp only at g1 g2 g3 ⊢
      subst g3
      refine Or.inr ⟨(upR υ 56 (upd (υ 56) i 0), nI (i + 1)), ?_, ⟨g1.tr (Sx.ud rfl), fun r hr => ?_⟩, rfl⟩
      · show f_Mo_costs_L2b N 42 _ υ _ = _
        unfold f_Mo_costs_L2b
        rw [if_neg (show ¬ (256 : Int32) ≤ nI i from nI_ge (b := 256) hi (by omega)), ogd_t _ (inb_n hi (by omega)), ilet_s, ilet_s, nI_1, nI_clamp (by omega)]
        rfl
      · show upd (υ 56) i 0 r = 0
        rw [upd_at]
        by_cases q : r = i
        · rw [if_pos q]
        · rw [if_neg q]; exact g2 r (by omega)
  obtain ⟨υ0, e1, hs0, hr0⟩ := e1
  rw [e1]
  refine lup (fun n' (s : Hp × Int32 × Int32) => f_Mo_costs_L26 N 42 n' s.1 s.2.1 s.2.2) (fun i s => (Sx cCo τ s.1 ∧ R01 (s.1 56) (RUB (τ 54) D i)) ∧ s.2.1 = nI (cnt (ob (RUB (τ 54) D i)) 256) ∧ s.2.2 = nI i) (fun z => ∃ υ, z = f_Mo_costs_L116 N 42 N (upR υ 42 (upd (υ 42) 26 0)) (nI (nRU (τ 54) D)) 0 ∧ Sx cCo τ υ ∧ R01 (υ 56) (RUL (τ 54) D)) 256 ?_ ?_ N 0 (υ0, 0, 0) (Nat.zero_le _) (by omega) ⟨⟨hs0, fun r hr => ⟨fun ⟨_, w, h, _⟩ => absurd h (Nat.not_lt_zero w), fun _ => hr0 r hr⟩⟩, ?_, rfl⟩
  · rintro n' ⟨υ, s1, s2⟩ ⟨⟨g1, g2⟩, g3, g4⟩
    dsimp only at g1 g2 g3 g4 ⊢
    subst g3; subst g4
    refine ⟨υ, ?_, g1, g2⟩
    show f_Mo_costs_L26b N 42 _ υ _ _ = _
    unfold f_Mo_costs_L26b
    rw [if_pos (show (256 : Int32) ≤ nI 256 by decide), ilet_s]
    rfl
  · rintro n' i ⟨υ, s1, s2⟩ hi ⟨⟨g1, g2⟩, g3, g4⟩
    dsimp only at g1 g2 g3 g4 ⊢
    subst g3; subst g4
    have w54 : υ 54 = τ 54 := g1.row 54 (fun _ => rfl)
    have ht := tried_y (N := N) (τ := υ) (w := i) hn ((g1 42 1 rfl).trans h1) (by rw [w54]; exact hz) hi
    rw [w54] at ht
    obtain ⟨r1, r2, r3, r4, r5⟩ := rule3 i hi
    have skip : (∀ x y, x < 8 → y < 8 → τ 54 (i / 32) = nI x → τ 54 (i / 4 % 8) = nI y → x ≠ y → D i ≠ 1) → f_Mo_costs_L26 N 42 (n' + 1) υ (nI (cnt (ob (RUB (τ 54) D i)) 256)) (nI i) = f_Mo_costs_L26 N 42 n' υ (nI (cnt (ob (RUB (τ 54) D i)) 256)) (nI (i + 1)) → ∃ s' : Hp × Int32 × Int32, f_Mo_costs_L26 N 42 (n' + 1) υ (nI (cnt (ob (RUB (τ 54) D i)) 256)) (nI i) = f_Mo_costs_L26 N 42 n' s'.1 s'.2.1 s'.2.2 ∧ (Sx cCo τ s'.1 ∧ R01 (s'.1 56) (RUB (τ 54) D (i + 1))) ∧ s'.2.1 = nI (cnt (ob (RUB (τ 54) D (i + 1))) 256) ∧ s'.2.2 = nI (i + 1) := fun hno e => by
      have hcg : ∀ r, r < 256 → (RUB (τ 54) D i r ↔ RUB (τ 54) D (i + 1) r) := fun r hr => ⟨fun ⟨a, w, b, c⟩ => ⟨a, w, by omega, c⟩, fun ⟨a, w, b, c, d, e, f⟩ => ⟨a, w, by
        rcases Nat.lt_or_ge w i with q | q
        · exact q
        · have : w = i := by omega
          subst this
          exact absurd f (hno (r / 32) (r / 4 % 8) (by omega) (by omega) c d a), c, d, e, f⟩⟩
      refine ⟨(υ, nI (cnt (ob (RUB (τ 54) D i)) 256), nI (i + 1)), e, ⟨g1, g2.cg hcg⟩, ?_, rfl⟩
      show nI (cnt (ob (RUB (τ 54) D i)) 256) = _
      rw [cnt_ext 256 (fun r hr => ob_cg (hcg r hr))]
    refine Or.inr ?_
    by_cases q1 : TR (τ 54) i
    · by_cases q2 : D i = 1
      · obtain ⟨x, hx, ex⟩ := (hv (i / 32) (by omega)).resolve_left q1.2.1
        obtain ⟨y, hy, ey⟩ := (hv (i / 4 % 8) (by omega)).resolve_left q1.2.2
        have e0 : f_Mo_costs_L26 N 42 (n' + 1) υ (nI (cnt (ob (RUB (τ 54) D i)) 256)) (nI i) = if nI x = nI y then f_Mo_costs_L26 N 42 n' υ (nI (cnt (ob (RUB (τ 54) D i)) 256)) (nI (i + 1)) else (if υ 56 (32 * x + 4 * y + i % 4) = 0 then f_Mo_costs_L26 N 42 n' (upR υ 56 (upd (υ 56) (32 * x + 4 * y + i % 4) 1)) (nI (cnt (ob (RUB (τ 54) D i)) 256 + 1)) (nI (i + 1)) else f_Mo_costs_L26 N 42 n' υ (nI (cnt (ob (RUB (τ 54) D i)) 256)) (nI (i + 1))) := by
          show f_Mo_costs_L26b N 42 _ υ _ _ = _
          unfold f_Mo_costs_L26b
          rw [if_neg (show ¬ (256 : Int32) ≤ nI i from nI_ge (b := 256) hi (by omega)), ht.1 q1, obd_s, if_neg (by decide), ogd_t _ (inb_n hi (by omega)), nI_clamp (by omega)]
          show (if υ 50 i = 0 then _ else _) = _
          rw [g1 50 i rfl, (hD i hi).1, q2, if_neg (by decide), r4, r2, ogd_t _ (inb_n (i := i / 32) (by omega) (by omega)), ogd_t _ (inb_n (i := i / 4 % 8) (by omega) (by omega)), nI_clamp (by omega), nI_clamp (by omega)]
          show (if υ 54 (i / 32) = υ 54 (i / 4 % 8) then _ else _) = _
          have hbt := mbetween_y (N := N) (τ := υ) (x := x) (y := y) hi (by rw [w54]; exact ex) (by rw [w54]; exact ey)
          rw [w54, ex, ey]
          by_cases qq : nI x = nI y
          · rw [if_pos qq, if_pos qq, ilet_s, nI_1]
          · rw [if_neg qq, if_neg qq, hbt, obd_s, ogd_t _ (inb_n (i := 32 * x + 4 * y + i % 4) (by omega) (by omega)), nI_clamp (by omega)]
            show (if υ 56 (32 * x + 4 * y + i % 4) = 0 then obd (f_Mo_between N 42 υ (nI i)) _ else _) = _
            by_cases q5 : υ 56 (32 * x + 4 * y + i % 4) = 0
            · rw [if_pos q5, if_pos q5, hbt, obd_s, ogd_t _ (inb_n (i := 32 * x + 4 * y + i % 4) (by omega) (by omega)), ilet_s, ilet_s, ilet_s, nI_1, nI_1, nI_clamp (by omega)]
              rfl
            · rw [if_neg q5, if_neg q5, ilet_s, nI_1]
        by_cases q3 : x = y
        · exact skip (fun x' y' hx' hy' c d e => absurd (by
            have i1 := (nI_eq (by omega) (by omega)).mp (ex.symm.trans c)
            have i2 := (nI_eq (by omega) (by omega)).mp (ey.symm.trans d)
            omega) e) (by rw [e0, if_pos (by rw [q3])])
        · rw [e0, if_neg (fun e => q3 ((nI_eq (by omega) (by omega)).mp e))]
          obtain ⟨r, er⟩ : ∃ r, r = 32 * x + 4 * y + i % 4 := ⟨_, rfl⟩
          rw [← er]
          have hr : r < 256 := by omega
          have rx : r / 32 = x := by omega
          have ry : r / 4 % 8 = y := by omega
          have rm : i % 4 = r % 4 := by omega
          have hnew : RUB (τ 54) D (i + 1) r := ⟨by omega, i, by omega, by rw [rx]; exact ex, by rw [ry]; exact ey, rm, q2⟩
          have hoth : ∀ r', r' < 256 → r' ≠ r → (RUB (τ 54) D i r' ↔ RUB (τ 54) D (i + 1) r') := fun r' hr' hne => ⟨fun ⟨a, w, b, c⟩ => ⟨a, w, by omega, c⟩, fun ⟨a, w, b, c, d, e, f⟩ => ⟨a, w, by
            rcases Nat.lt_or_ge w i with q | q
            · exact q
            · have : w = i := by omega
              subst this
              have i1 := (nI_eq (by omega) (by omega)).mp (ex.symm.trans c)
              have i2 := (nI_eq (by omega) (by omega)).mp (ey.symm.trans d)
              omega, c, d, e, f⟩⟩
          by_cases q4 : RUB (τ 54) D i r
          · rw [if_neg (by rw [(g2 r hr).1 q4]; decide)]
            have hcg : ∀ r', r' < 256 → (RUB (τ 54) D i r' ↔ RUB (τ 54) D (i + 1) r') := fun r' hr' => by
              by_cases q5 : r' = r
              · subst q5; exact ⟨fun _ => hnew, fun _ => q4⟩
              · exact hoth r' hr' q5
            refine ⟨(υ, nI (cnt (ob (RUB (τ 54) D i)) 256), nI (i + 1)), rfl, ⟨g1, g2.cg hcg⟩, ?_, rfl⟩
            show nI (cnt (ob (RUB (τ 54) D i)) 256) = _
            rw [cnt_ext 256 (fun r hr => ob_cg (hcg r hr))]
          · rw [if_pos ((g2 r hr).2 q4)]
            refine ⟨(upR υ 56 (upd (υ 56) r 1), nI (cnt (ob (RUB (τ 54) D i)) 256 + 1), nI (i + 1)), rfl, ⟨g1.tr (Sx.ud rfl), fun r' hr' => ?_⟩, ?_, rfl⟩
            · show (_ → upd (υ 56) r 1 r' = 1) ∧ (_ → upd (υ 56) r 1 r' = 0)
              rw [upd_at]
              by_cases q5 : r' = r
              · rw [if_pos q5]; subst q5; exact ⟨fun _ => rfl, fun e => absurd hnew e⟩
              · rw [if_neg q5, ← hoth r' hr' q5]; exact g2 r' hr'
            · show nI (cnt (ob (RUB (τ 54) D i)) 256 + 1) = _
              rw [cnt_ins (p := ob (RUB (τ 54) D i)) (p' := ob (RUB (τ 54) D (i + 1))) hr (fun k hk hne => (ob_cg (hoth k hk hne)).symm) (ob_f q4) (ob_t hnew)]
      · refine skip (fun _ _ _ _ _ _ _ => q2) ?_
        show f_Mo_costs_L26b N 42 _ υ _ _ = _
        unfold f_Mo_costs_L26b
        rw [if_neg (show ¬ (256 : Int32) ≤ nI i from nI_ge (b := 256) hi (by omega)), ht.1 q1, obd_s, if_neg (by decide), ogd_t _ (inb_n hi (by omega)), nI_clamp (by omega)]
        show (if υ 50 i = 0 then _ else _) = _
        rw [g1 50 i rfl, (hD i hi).1, (hD i hi).2.resolve_right q2, if_pos rfl, ilet_s, nI_1]
    · refine skip (fun x y hx hy c d e => absurd ⟨?_, ?_, ?_⟩ q1) ?_
      · show f_Mo_costs_L26b N 42 _ υ _ _ = _
        unfold f_Mo_costs_L26b
        rw [if_neg (show ¬ (256 : Int32) ≤ nI i from nI_ge (b := 256) hi (by omega)), ht.2 q1, obd_s, if_pos rfl, ilet_s, nI_1]
      · intro e2
        rw [e2] at c
        have := (nI_eq (by omega) (by omega)).mp (c.symm.trans d)
        omega
      · rw [c]; exact nm1_ne (by omega)
      · rw [d]; exact nm1_ne (by omega)
  · show (0 : Int32) = nI (cnt (ob (RUB (τ 54) D 0)) 256)
    rw [cnt_no (fun k => ob_f (fun ⟨_, w, h, _⟩ => absurd h (Nat.not_lt_zero w)))]; rfl
theorem costs_y {N n rp sp : Nat} {τ : Hp} {D B : Nat → Int32} (hN : 1000 ≤ N) (hn : n ≤ 8) (h1 : τ 42 1 = nI n) (h13 : τ 42 13 = nI rp) (h14 : τ 42 14 = nI sp) (hv : RV (τ 54)) (hz : ∀ j, n ≤ j → j < 8 → τ 54 j = (-1)) (hD : ∀ w, w < 256 → τ 50 w = D w ∧ (D w = 0 ∨ D w = 1)) (hB : ∀ w, w < 256 → τ 49 w = B w ∧ (B w = 0 ∨ B w = 1)) : ∃ υ, Sx cCo τ υ ∧ R01 (υ 56) (RUL (τ 54) D) ∧ ((BRD (τ 54) D B ∧ f_Mo_costs N 42 τ = some ((-1), υ)) ∨ (¬ BRD (τ 54) D B ∧ f_Mo_costs N 42 τ = some (nI (csO rp sp (τ 54) D), υ) ∧ υ 42 26 = nI (nST (τ 54) D))) := by
  obtain ⟨υ0, e1, hs0, hr0⟩ := costs_1 (N := N) (τ := τ) (D := D) hN hn h1 hv hz hD
  rw [e1]
  refine lup (fun n' (s : Hp × Int32) => f_Mo_costs_L116 N 42 n' s.1 (nI (nRU (τ 54) D)) s.2) (fun i s => (Sx cCo τ s.1 ∧ R01 (s.1 56) (RUL (τ 54) D) ∧ s.1 42 26 = nI (cnt (ob (STR (τ 54) D)) i) ∧ ∀ w, w < i → LET (τ 54) D w → B w = 0) ∧ s.2 = nI i) (fun z => ∃ υ, Sx cCo τ υ ∧ R01 (υ 56) (RUL (τ 54) D) ∧ ((BRD (τ 54) D B ∧ z = some ((-1), υ)) ∨ (¬ BRD (τ 54) D B ∧ z = some (nI (csO rp sp (τ 54) D), υ) ∧ υ 42 26 = nI (nST (τ 54) D)))) 256 ?_ ?_ N 0 (_, 0) (Nat.zero_le _) (by omega) ⟨⟨hs0.tr (Sx.ud rfl), hr0, rfl, fun w hw => absurd hw (Nat.not_lt_zero w)⟩, rfl⟩
  · rintro n' ⟨υ, s2⟩ ⟨⟨g1, g2, g3, g4⟩, g5⟩
    dsimp only at g1 g2 g3 g4 g5 ⊢
    subst g5
    refine ⟨υ, g1, g2, Or.inr ⟨fun ⟨w, a, b, c⟩ => ?_, ?_, g3⟩⟩
    · rw [g4 w a b] at c; exact absurd c (by decide)
    · show f_Mo_costs_L116b N 42 _ υ _ _ = _
      unfold f_Mo_costs_L116b
      rw [if_pos (show (256 : Int32) ≤ nI 256 by decide), g1 42 13 rfl, g1 42 14 rfl, h13, h14, g3, pk_mul, pk_mul, nI_add]
      rfl
  · rintro n' i ⟨υ, s2⟩ hi ⟨⟨g1, g2, g3, g4⟩, g5⟩
    dsimp only at g1 g2 g3 g4 g5 ⊢
    subst g5
    have w54 : υ 54 = τ 54 := g1.row 54 (fun _ => rfl)
    have ht := tried_y (N := N) (τ := υ) (w := i) hn ((g1 42 1 rfl).trans h1) (by rw [w54]; exact hz) hi
    rw [w54] at ht
    obtain ⟨r1, r2, r3, r4, r5⟩ := rule3 i hi
    have hnl : ¬ TR (τ 54) i → ¬ LET (τ 54) D i := fun h ⟨a, x, y, hx, hy, c, d, _⟩ => h ⟨a, by rw [c]; exact nm1_ne (by omega), by rw [d]; exact nm1_ne (by omega)⟩
    have keep : ¬ STR (τ 54) D i → (LET (τ 54) D i → B i = 0) → ∀ υ', Sx cCo τ υ' → R01 (υ' 56) (RUL (τ 54) D) → υ' 42 26 = nI (cnt (ob (STR (τ 54) D)) i) → (Sx cCo τ υ' ∧ R01 (υ' 56) (RUL (τ 54) D) ∧ υ' 42 26 = nI (cnt (ob (STR (τ 54) D)) (i + 1)) ∧ ∀ w, w < i + 1 → LET (τ 54) D w → B w = 0) := fun a b υ' c d e => ⟨c, d, by rw [cn_n (P := STR (τ 54) D) a]; exact e, fun w hw hl => by
      rcases Nat.lt_or_ge w i with q | q
      · exact g4 w q hl
      · have : w = i := by omega
        subst this; exact b hl⟩
    by_cases q1 : TR (τ 54) i
    · obtain ⟨x, hx, ex⟩ := (hv (i / 32) (by omega)).resolve_left q1.2.1
      obtain ⟨y, hy, ey⟩ := (hv (i / 4 % 8) (by omega)).resolve_left q1.2.2
      have hlet : LET (τ 54) D i ↔ (x = y ∨ RUL (τ 54) D (32 * x + 4 * y + i % 4)) := ⟨fun ⟨a, x', y', hx', hy', c, d, e⟩ => by
        have i1 := (nI_eq (by omega) (by omega)).mp (ex.symm.trans c)
        have i2 := (nI_eq (by omega) (by omega)).mp (ey.symm.trans d)
        subst i1; subst i2; exact e, fun e => ⟨q1.1, x, y, hx, hy, ex, ey, e⟩⟩
      have hrow : υ 56 (32 * x + 4 * y + i % 4) = 0 ↔ ¬ RUL (τ 54) D (32 * x + 4 * y + i % 4) := ⟨fun e q => by rw [(g2 _ (by omega)).1 q] at e; exact absurd e (by decide), (g2 _ (by omega)).2⟩
      have e0 : f_Mo_costs_L116 N 42 (n' + 1) υ (nI (nRU (τ 54) D)) (nI i) = if x = y ∨ ¬ υ 56 (32 * x + 4 * y + i % 4) = 0 then f_Mo_costs_J170 N 42 (f_Mo_costs_L116 N 42 n') υ (nI (nRU (τ 54) D)) (nI i) else f_Mo_costs_J175 N 42 (f_Mo_costs_L116 N 42 n') υ (nI (nRU (τ 54) D)) (nI i) 0 := by
        show f_Mo_costs_L116b N 42 _ υ _ _ = _
        unfold f_Mo_costs_L116b
        rw [if_neg (show ¬ (256 : Int32) ≤ nI i from nI_ge (b := 256) hi (by omega)), ht.1 q1, obd_s, if_neg (by decide), r4, r2, ogd_t _ (inb_n (i := i / 32) (by omega) (by omega)), ogd_t _ (inb_n (i := i / 4 % 8) (by omega) (by omega)), nI_clamp (by omega), nI_clamp (by omega)]
        show (if υ 54 (i / 32) = υ 54 (i / 4 % 8) then _ else _) = _
        rw [mbetween_y (x := x) (y := y) hi (by rw [w54]; exact ex) (by rw [w54]; exact ey), w54, ex, ey]
        by_cases qq : x = y
        · rw [if_pos (by rw [qq]), if_pos (Or.inl qq)]
        · rw [if_neg (fun e => qq ((nI_eq (by omega) (by omega)).mp e)), obd_s, ogd_t _ (inb_n (i := 32 * x + 4 * y + i % 4) (by omega) (by omega)), nI_clamp (by omega)]
          show (if υ 56 (32 * x + 4 * y + i % 4) = 0 then _ else _) = _
          by_cases q5 : υ 56 (32 * x + 4 * y + i % 4) = 0
          · rw [if_pos q5, if_neg (fun e => e.elim qq (fun e => e q5))]
          · rw [if_neg q5, if_pos (Or.inr q5)]
      rw [e0]
      by_cases q2 : LET (τ 54) D i
      · rw [if_pos ((hlet.mp q2).imp id (fun e h => (hrow.mp h) e))]
        unfold f_Mo_costs_J170 f_Mo_costs_J175
        rw [if_neg (by decide), ogd_t _ (inb_n hi (by omega)), nI_clamp (by omega)]
        show ((∃ υ', Sx cCo τ υ' ∧ R01 (υ' 56) (RUL (τ 54) D) ∧ ((BRD (τ 54) D B ∧ (if υ 49 i = 0 then _ else _) = some ((-1), υ')) ∨ (¬ BRD (τ 54) D B ∧ (if υ 49 i = 0 then _ else _) = some (nI (csO rp sp (τ 54) D), υ') ∧ υ' 42 26 = nI (nST (τ 54) D)))) ∨ ∃ s' : Hp × Int32, (if υ 49 i = 0 then _ else _) = _ ∧ _)
        rw [g1 49 i rfl, (hB i hi).1]
        rcases (hB i hi).2 with b0 | b1
        · rw [if_pos b0]
          unfold f_Mo_costs_J191
          rw [if_neg (by decide), ogd_t _ (inb_n hi (by omega)), nI_clamp (by omega)]
          refine Or.inr ?_
          show ∃ s' : Hp × Int32, (if υ 50 i = 0 then _ else _) = _ ∧ _
          rw [g1 50 i rfl, (hD i hi).1]
          rcases (hD i hi).2 with d0 | d1
          · have hst : STR (τ 54) D i := ⟨q2, by rw [d0]; decide⟩
            rw [if_pos d0, ilet_s, ilet_s, nI_1, g3, nI_1]
            refine ⟨(_, nI (i + 1)), rfl, ⟨g1.tr (Sx.ud rfl), g2, by rw [cn_y (P := STR (τ 54) D) hst]; rfl, fun w hw hl => ?_⟩, rfl⟩
            rcases Nat.lt_or_ge w i with q | q
            · exact g4 w q hl
            · have : w = i := by omega
              subst this; exact b0
          · have hst : ¬ STR (τ 54) D i := fun e => e.2 d1
            rw [if_neg (by rw [d1]; decide), ilet_s, ilet_s, nI_1, g3, Int32.add_zero]
            exact ⟨(_, nI (i + 1)), rfl, keep hst (fun _ => b0) _ (g1.tr (Sx.ud rfl)) g2 rfl, rfl⟩
        · rw [if_neg (by rw [b1]; decide)]
          exact Or.inl ⟨υ, g1, g2, Or.inl ⟨⟨i, hi, q2, b1⟩, rfl⟩⟩
      · rw [if_neg (fun e => q2 (hlet.mpr (e.imp id (fun e => Classical.byContradiction (fun q => e (hrow.mpr q))))))]
        unfold f_Mo_costs_J175 f_Mo_costs_J191
        rw [if_pos rfl, if_pos rfl, ilet_s, ilet_s, nI_1, g3, Int32.add_zero]
        exact Or.inr ⟨(_, nI (i + 1)), rfl, keep (fun e => q2 e.1) (fun e => absurd e q2) _ (g1.tr (Sx.ud rfl)) g2 rfl, rfl⟩
    · refine Or.inr ⟨(υ, nI (i + 1)), ?_, keep (fun e => hnl q1 e.1) (fun e => absurd e (hnl q1)) υ g1 g2 g3, rfl⟩
      show f_Mo_costs_L116b N 42 _ υ _ _ = _
      unfold f_Mo_costs_L116b
      rw [if_neg (show ¬ (256 : Int32) ≤ nI i from nI_ge (b := 256) hi (by omega)), ht.2 q1, obd_s, if_pos rfl, ilet_s, nI_1]
