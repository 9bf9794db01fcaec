/-- the sum of counts, as both compute it -/
def wS (w d c : Nat → Int32) (x day win : Int32) : Nat → Int32
  | 0 => 0
  | j + 1 => if w j = x ∧ ¬ day < d j ∧ ¬ d j ≤ day - win then wS w d c x day win j + c j else wS w d c x day win j
theorem within_y {N t j : Nat} {τ : Hp} {day win : Int32} (hj : j < 300) : f_Di_isWithin N 6 τ (nI j) day win = some (if ¬ day < τ 8 j ∧ ¬ τ 8 j ≤ day - win then 1 else 0, τ) := by
  unfold f_Di_isWithin
  rw [ogd_t _ (inb_n hj (by omega)), nI_clamp (by omega)]
  show (if day < τ 8 j then some (0, τ) else ogd (inb (nI j) 300) (if τ 8 j ≤ day - win then some (0, τ) else some (1, τ))) = _
  by_cases h1 : day < τ 8 j
  · rw [if_pos h1, if_neg (fun q => q.1 h1)]
  · rw [if_neg h1, ogd_t _ (inb_n hj (by omega))]
    by_cases h2 : τ 8 j ≤ day - win
    · rw [if_pos h2, if_neg (fun q => q.2 h2)]
    · rw [if_neg h2, if_pos ⟨h1, h2⟩]
theorem sumOf_y {N t : Nat} {τ : Hp} {x day win : Int32} (hN : 1000 ≤ N) (ht : t ≤ 300) (h : τ 6 3 = nI t) : f_Di_sumOf N 6 τ x day win = some (wS (τ 7) (τ 8) (τ 9) x day win t, τ) := by
  unfold f_Di_sumOf
  refine lup (fun n (s : Int32 × Int32) => f_Di_sumOf_L6 N 6 n τ x day win s.1 s.2) (fun i s => s.1 = wS (τ 7) (τ 8) (τ 9) x day win i ∧ s.2 = nI i) (fun z => z = some (wS (τ 7) (τ 8) (τ 9) x day win t, τ)) t ?_ ?_ N 0 (0, 0) (Nat.zero_le _) (by omega) ⟨rfl, rfl⟩
  · rintro n ⟨s1, s2⟩ ⟨h1, h2⟩
    dsimp only at h1 h2 ⊢
    subst h1; subst h2
    show f_Di_sumOf_L6b N 6 _ τ x day win _ _ = _
    unfold f_Di_sumOf_L6b
    rw [h, if_pos (nI_le (Nat.le_refl _) (by omega))]
  · rintro n i ⟨s1, s2⟩ hi ⟨h1, h2⟩
    dsimp only at h1 h2 ⊢
    subst h1; subst h2
    refine Or.inr ?_
    show ∃ s' : Int32 × Int32, f_Di_sumOf_L6b N 6 _ τ x day win _ _ = _ ∧ _
    unfold f_Di_sumOf_L6b
    rw [h, if_neg (nI_ge hi (by omega)), ogd_t _ (inb_n (by omega) (by omega)), nI_clamp (by omega)]
    show ∃ s' : Int32 × Int32, (if τ 7 i = x then _ else _) = _ ∧ _
    by_cases h1 : τ 7 i = x
    · rw [if_pos h1, within_y (t := t) (by omega), obd_s]
      by_cases h2 : ¬ day < τ 8 i ∧ ¬ τ 8 i ≤ day - win
      · rw [if_pos h2, if_neg (by decide), ogd_t _ (inb_n (by omega) (by omega)), ilet_s, ilet_s]
        exact ⟨(wS (τ 7) (τ 8) (τ 9) x day win i + τ 9 i, nI (i + 1)), by rw [nI_succ], by rw [wS, if_pos ⟨h1, h2⟩], rfl⟩
      · rw [if_neg h2, if_pos rfl, ilet_s]
        exact ⟨(wS (τ 7) (τ 8) (τ 9) x day win i, nI (i + 1)), by rw [nI_succ], by rw [wS, if_neg (fun q => h2 q.2)], rfl⟩
    · rw [if_neg h1, ilet_s]
      exact ⟨(wS (τ 7) (τ 8) (τ 9) x day win i, nI (i + 1)), by rw [nI_succ], by rw [wS, if_neg (fun q => h1 q.1)], rfl⟩
theorem mweight_y {N t : Nat} {τ : Hp} {x day : Int32} (hN : 1000 ≤ N) (ht : t ≤ 300) (h : τ 42 4 = nI t) : f_Mo_weightOf N 42 τ x day = some (wS (τ 45) (τ 46) (τ 47) x day (τ 42 10) t, τ) := by
  unfold f_Mo_weightOf
  refine lup (fun n (s : Int32 × Int32) => f_Mo_weightOf_L5 N 42 n τ x day s.1 s.2) (fun i s => s.1 = wS (τ 45) (τ 46) (τ 47) x day (τ 42 10) i ∧ s.2 = nI i) (fun z => z = some (wS (τ 45) (τ 46) (τ 47) x day (τ 42 10) t, τ)) t ?_ ?_ N 0 (0, 0) (Nat.zero_le _) (by omega) ⟨rfl, rfl⟩
  · rintro n ⟨s1, s2⟩ ⟨h1, h2⟩
    dsimp only at h1 h2 ⊢
    subst h1; subst h2
    show f_Mo_weightOf_L5b N 42 _ τ x day _ _ = _
    unfold f_Mo_weightOf_L5b
    rw [h, if_pos (nI_le (Nat.le_refl _) (by omega))]
  · rintro n i ⟨s1, s2⟩ hi ⟨h1, h2⟩
    dsimp only at h1 h2 ⊢
    subst h1; subst h2
    refine Or.inr ?_
    show ∃ s' : Int32 × Int32, f_Mo_weightOf_L5b N 42 _ τ x day _ _ = _ ∧ _
    unfold f_Mo_weightOf_L5b
    rw [h, if_neg (nI_ge hi (by omega)), ogd_t _ (inb_n (by omega) (by omega)), nI_clamp (by omega)]
    show ∃ s' : Int32 × Int32, (if τ 45 i = x then ogd (inb (nI i) 300) (if day < τ 46 i then _ else ogd (inb (nI i) 300) (if τ 46 i ≤ day - τ 42 10 then _ else ogd (inb (nI i) 300) (ilet (_ + τ 47 i) _))) else _) = _ ∧ _
    by_cases h1 : τ 45 i = x
    · rw [if_pos h1, ogd_t _ (inb_n (by omega) (by omega))]
      by_cases h2 : day < τ 46 i
      · rw [if_pos h2, ilet_s]
        exact ⟨(wS (τ 45) (τ 46) (τ 47) x day (τ 42 10) i, nI (i + 1)), by rw [nI_succ], by rw [wS, if_neg (fun q => q.2.1 h2)], rfl⟩
      · rw [if_neg h2, ogd_t _ (inb_n (by omega) (by omega))]
        by_cases h3 : τ 46 i ≤ day - τ 42 10
        · rw [if_pos h3, ilet_s]
          exact ⟨(wS (τ 45) (τ 46) (τ 47) x day (τ 42 10) i, nI (i + 1)), by rw [nI_succ], by rw [wS, if_neg (fun q => q.2.2 h3)], rfl⟩
        · rw [if_neg h3, ogd_t _ (inb_n (by omega) (by omega)), ilet_s, ilet_s]
          exact ⟨(wS (τ 45) (τ 46) (τ 47) x day (τ 42 10) i + τ 47 i, nI (i + 1)), by rw [nI_succ], by rw [wS, if_pos ⟨h1, h2, h3⟩], rfl⟩
    · rw [if_neg h1, ilet_s]
      exact ⟨(wS (τ 45) (τ 46) (τ 47) x day (τ 42 10) i, nI (i + 1)), by rw [nI_succ], by rw [wS, if_neg (fun q => h1 q.1)], rfl⟩
theorem wS_cg {w d c w' d' c' : Nat → Int32} {x day win : Int32} : ∀ {t : Nat}, (∀ j, j < t → w j = w' j ∧ d j = d' j ∧ c j = c' j) → wS w d c x day win t = wS w' d' c' x day win t
  | 0, _ => rfl
  | t + 1, h => by
    obtain ⟨h1, h2, h3⟩ := h t (by omega)
    rw [wS, wS, h1, h2, h3, wS_cg (fun j hj => h j (by omega))]
theorem ID.eqs {n t : Nat} {w d c w' d' c' : Nat → Int32} (h : ID n t w d c w' d' c') : ∀ j, j < t → w j = w' j ∧ d j = d' j ∧ c j = c' j := fun j hj => by
  obtain ⟨x, y, z, -, -, -, -, e1, e2, e3, e4, e5, e6⟩ := h j hj
  exact ⟨by rw [e1, e2], by rw [e3, e4], by rw [e5, e6]⟩
/-- the model's first step, 'thrown = 0' -/
theorem mth (υ : Hp) (f : Hp → OR) : ilet (upR υ 42 (upd (υ 42) 0 0)) f = f (upR υ 42 (upd (υ 42) 0 0)) := rfl
theorem sxT (υ : Hp) : Sx cM υ (upR υ 42 (upd (υ 42) 0 0)) := Sx.ud rfl
theorem isNeed_y {N n a b d : Nat} {τ : Hp} {x le : Int32} (hB : IvB τ n) (hd : d < 4) (hab : 8 * a + b < 64) : f_Nt_isNeed N 1 τ (nI (8 * a + b)) (nI d) x le = some (if τ 48 (32 * a + 4 * b + d) = 1 ∨ (τ 49 (32 * a + 4 * b + d) = 0 ∧ ¬ x < le) then 1 else 0, τ) := by
  obtain ⟨b1, b2, b3⟩ := hB
  obtain ⟨m, hm, e0, f0⟩ := b1.at (p := 8 * a + b) (d := d) hab hd
  obtain ⟨m2, hm2, e1, f1⟩ := b2.at (p := 8 * a + b) (d := d) hab hd
  rw [show 4 * (8 * a + b) + d = 32 * a + 4 * b + d by omega] at f0 f1
  unfold f_Nt_isNeed
  rw [ogd_t _ (inb_n hab (by omega)), nI_clamp (by omega)]
  show obd (f_WP_hasDoor N τ (τ 3 (8 * a + b)) (nI d)) _ = _
  rw [e0, door_y hm hd, obd_s, f0, f1]
  by_cases h1 : m.testBit d = true
  · rw [if_pos h1, if_neg (by decide), if_pos (Or.inl rfl)]
  · rw [if_neg h1, if_pos rfl, ogd_t _ (inb_n hab (by omega))]
    show obd (f_WP_hasDoor N τ (τ 4 (8 * a + b)) (nI d)) _ = _
    rw [e1, door_y hm2 hd, obd_s]
    by_cases h2 : m2.testBit d = true
    · rw [if_pos h2, if_neg (by decide), if_neg]
      rintro (q | ⟨q, -⟩)
      · exact absurd q (by decide)
      · exact absurd q (by decide)
    · rw [if_neg h2, if_pos rfl]
      by_cases h3 : x < le
      · rw [if_pos h3, if_neg]
        rintro (q | ⟨-, q⟩)
        · exact absurd q (by decide)
        · exact q h3
      · rw [if_neg h3, if_pos (Or.inr ⟨rfl, h3⟩)]
theorem isNeeded_y {N n w : Nat} {τ : Hp} {x : Int32} (hB : IvB τ n) (hw : w < 256) : f_Mo_isNeeded N 42 τ (nI w) x = some (if τ 48 w = 1 ∨ (τ 49 w = 0 ∧ ¬ x < τ 42 11) then 1 else 0, τ) := by
  obtain ⟨b1, b2, b3⟩ := hB
  obtain ⟨m, hm, e0, f0⟩ := b1.at (p := w / 4) (d := w % 4) (by omega) (by omega)
  obtain ⟨m2, hm2, e1, f1⟩ := b2.at (p := w / 4) (d := w % 4) (by omega) (by omega)
  rw [show 4 * (w / 4) + w % 4 = w by omega] at f0 f1
  unfold f_Mo_isNeeded
  rw [ogd_t _ (inb_n hw (by omega)), nI_clamp (by omega)]
  show (if τ 48 w = 0 then ogd (inb (nI w) 256) (if τ 49 w = 0 then (if x < τ 42 11 then some (0, τ) else some (1, τ)) else some (0, τ)) else some (1, τ)) = _
  rw [f0, f1]
  by_cases h1 : m.testBit (w % 4) = true
  · rw [if_pos h1, if_neg (by decide), if_pos (Or.inl rfl)]
  · rw [if_neg h1, if_pos rfl, ogd_t _ (inb_n hw (by omega))]
    by_cases h2 : m2.testBit (w % 4) = true
    · rw [if_pos h2, if_neg (by decide), if_neg]
      rintro (q | ⟨q, -⟩)
      · exact absurd q (by decide)
      · exact absurd q (by decide)
    · rw [if_neg h2, if_pos rfl]
      by_cases h3 : x < τ 42 11
      · rw [if_pos h3, if_neg]
        rintro (q | ⟨-, q⟩)
        · exact absurd q (by decide)
        · exact q h3
      · rw [if_neg h3, if_pos (Or.inr ⟨rfl, h3⟩)]
theorem ok_weight (N : Nat) (hN : 1000 ≤ N) : op_weight N Inv := by
  intro v1 v2 v3 v4
  refine ok_read (fun τ hI => ?_)
  obtain ⟨n, t, wi, le, rp, sp, mk, R, hH, hT, hB, hL, hP, hS, hO⟩ := id hI
  obtain ⟨hn, h1, h2, h3⟩ := hH
  obtain ⟨ht, t1, t2, t3⟩ := hT
  by_cases hw : isWY n v1 v2 v3
  · obtain ⟨a, b, d, ha, hb, hab, hd, rfl, rfl, rfl⟩ := hw
    by_cases hdy : ∃ d, d ≤ 99 ∧ v4 = nI d
    · obtain ⟨y, hy, rfl⟩ := hdy
      refine ⟨wS (τ 7) (τ 8) (τ 9) (nI (32 * a + 4 * b + d)) (nI y) (τ 5 0) t, τ, ?_, Sx.rf, fun υ _ hs => ?_⟩
      · unfold f_WP_weight
        show obd (f_Nt_isWay N 1 τ _ _ _) _ = _
        rw [way_y hn h1 ha hb hab hd, obd_s, if_neg (by decide), day_y hy, obd_s, if_neg (by decide), wayOf_y, obd_s]
        show obd (f_Di_sumOf N 6 τ _ _ (τ 5 0)) _ = _
        rw [sumOf_y hN ht t1, obd_s]
      · refine ⟨_, ?_, sxT υ⟩
        unfold f_Mo_weight
        rw [mth, mway_y (n := n) (τ := upR υ 42 (upd (υ 42) 0 0)) hn ((hs 42 1 rfl).trans h2) ha hb hab hd, obd_s, if_neg (nm1_ne (by omega)), mday_y hy, obd_s, if_neg (by decide), mweight_y (t := t) (τ := upR υ 42 (upd (υ 42) 0 0)) hN ht ((hs 42 4 rfl).trans t2), obd_s]
        show some (wS (υ 45) (υ 46) (υ 47) _ _ (υ 42 10) t, _) = _
        rw [hs.row 45 (fun _ => rfl), hs.row 46 (fun _ => rfl), hs.row 47 (fun _ => rfl), hs 42 10 rfl, hL.2.2.2.2.2.2.2.1, hL.2.2.2.2.2.2.1, wS_cg (ID.eqs t3)]
    · refine ⟨(-1), τ, ?_, Sx.rf, fun υ _ hs => ⟨_, ?_, sxT υ⟩⟩
      · unfold f_WP_weight
        show obd (f_Nt_isWay N 1 τ _ _ _) _ = _
        rw [way_y hn h1 ha hb hab hd, obd_s, if_neg (by decide), day_n hdy, obd_s, if_pos rfl]
      · unfold f_Mo_weight
        rw [mth, mway_y (n := n) (τ := upR υ 42 (upd (υ 42) 0 0)) hn ((hs 42 1 rfl).trans h2) ha hb hab hd, obd_s, if_neg (nm1_ne (by omega)), mday_n hdy, obd_s, if_pos rfl]
  · refine ⟨(-1), τ, ?_, Sx.rf, fun υ _ hs => ⟨_, ?_, sxT υ⟩⟩
    · unfold f_WP_weight
      show obd (f_Nt_isWay N 1 τ _ _ _) _ = _
      rw [way_n hn h1 hw, obd_s, if_pos rfl]
    · unfold f_Mo_weight
      rw [mth, mway_n (n := n) (τ := upR υ 42 (upd (υ 42) 0 0)) hn ((hs 42 1 rfl).trans h2) hw, obd_s, if_pos rfl]
theorem ok_needed (N : Nat) (hN : 1000 ≤ N) : op_needed N Inv := by
  intro v1 v2 v3 v4
  refine ok_read (fun τ hI => ?_)
  obtain ⟨n, t, wi, le, rp, sp, mk, R, hH, hT, hB, hL, hP, hS, hO⟩ := id hI
  obtain ⟨hn, h1, h2, h3⟩ := hH
  obtain ⟨ht, t1, t2, t3⟩ := hT
  by_cases hw : isWY n v1 v2 v3
  · obtain ⟨a, b, d, ha, hb, hab, hd, rfl, rfl, rfl⟩ := hw
    by_cases hdy : ∃ d, d ≤ 99 ∧ v4 = nI d
    · obtain ⟨y, hy, rfl⟩ := hdy
      refine ⟨if τ 48 (32 * a + 4 * b + d) = 1 ∨ (τ 49 (32 * a + 4 * b + d) = 0 ∧ ¬ wS (τ 7) (τ 8) (τ 9) (nI (32 * a + 4 * b + d)) (nI y) (τ 5 0) t < τ 5 1) then 1 else 0, τ, ?_, Sx.rf, fun υ _ hs => ?_⟩
      · unfold f_WP_needed
        show obd (f_Nt_isWay N 1 τ _ _ _) _ = _
        rw [way_y hn h1 ha hb hab hd, obd_s, if_neg (by decide), day_y hy, obd_s, if_neg (by decide), wayOf_y, obd_s]
        show obd (f_Di_sumOf N 6 τ _ _ (τ 5 0)) _ = _
        rw [sumOf_y hN ht t1, obd_s, pairOf_y, obd_s]
        show obd (f_Nt_isNeed N 1 τ _ _ _ (τ 5 1)) _ = _
        rw [isNeed_y hB hd (by omega), obd_s]
        by_cases q : τ 48 (32 * a + 4 * b + d) = 1 ∨ (τ 49 (32 * a + 4 * b + d) = 0 ∧ ¬ wS (τ 7) (τ 8) (τ 9) (nI (32 * a + 4 * b + d)) (nI y) (τ 5 0) t < τ 5 1)
        · rw [if_pos q, if_neg (by decide)]
        · rw [if_neg q, if_pos rfl]
      · refine ⟨_, ?_, sxT υ⟩
        unfold f_Mo_needed
        have hBu : IvB (upR υ 42 (upd (υ 42) 0 0)) n := IvB.cg (c := cA) ((cA_C hs).tr (cA_M (sxT υ))) (fun _ => ⟨rfl, rfl, rfl, rfl⟩) hB
        rw [mth, mway_y (n := n) (τ := upR υ 42 (upd (υ 42) 0 0)) hn ((hs 42 1 rfl).trans h2) ha hb hab hd, obd_s, if_neg (nm1_ne (by omega)), mday_y hy, obd_s, if_neg (by decide), mweight_y (t := t) (τ := upR υ 42 (upd (υ 42) 0 0)) hN ht ((hs 42 4 rfl).trans t2), obd_s, isNeeded_y hBu (by omega), obd_s]
        show (if (if υ 48 (32 * a + 4 * b + d) = 1 ∨ (υ 49 (32 * a + 4 * b + d) = 0 ∧ ¬ wS (υ 45) (υ 46) (υ 47) _ _ (υ 42 10) t < υ 42 11) then (1 : Int32) else 0) = 0 then some (0, _) else some (1, _)) = _
        rw [hs.row 45 (fun _ => rfl), hs.row 46 (fun _ => rfl), hs.row 47 (fun _ => rfl), hs 42 10 rfl, hs 42 11 rfl, hs.row 48 (fun _ => rfl), hs.row 49 (fun _ => rfl), hL.2.2.2.2.2.2.2.1, hL.2.2.2.2.2.2.1, ← wS_cg (ID.eqs t3), hL.2.2.2.2.2.2.2.2.1, hL.2.2.2.2.2.2.2.2.2.1]
        by_cases q : τ 48 (32 * a + 4 * b + d) = 1 ∨ (τ 49 (32 * a + 4 * b + d) = 0 ∧ ¬ wS (τ 7) (τ 8) (τ 9) (nI (32 * a + 4 * b + d)) (nI y) (nI wi) t < nI le)
        · rw [if_pos q, if_neg (by decide)]
        · rw [if_neg q, if_pos rfl]
    · refine ⟨(-1), τ, ?_, Sx.rf, fun υ _ hs => ⟨_, ?_, sxT υ⟩⟩
      · unfold f_WP_needed
        show obd (f_Nt_isWay N 1 τ _ _ _) _ = _
        rw [way_y hn h1 ha hb hab hd, obd_s, if_neg (by decide), day_n hdy, obd_s, if_pos rfl]
      · unfold f_Mo_needed
        rw [mth, mway_y (n := n) (τ := upR υ 42 (upd (υ 42) 0 0)) hn ((hs 42 1 rfl).trans h2) ha hb hab hd, obd_s, if_neg (nm1_ne (by omega)), mday_n hdy, obd_s, if_pos rfl]
  · refine ⟨(-1), τ, ?_, Sx.rf, fun υ _ hs => ⟨_, ?_, sxT υ⟩⟩
    · unfold f_WP_needed
      show obd (f_Nt_isWay N 1 τ _ _ _) _ = _
      rw [way_n hn h1 hw, obd_s, if_pos rfl]
    · unfold f_Mo_needed
      rw [mth, mway_n (n := n) (τ := upR υ 42 (upd (υ 42) 0 0)) hn ((hs 42 1 rfl).trans h2) hw, obd_s, if_pos rfl]
