theorem mnear_y {N w x y : Nat} {τ : Hp} (hN : 1000 ≤ N) (hw : w < 256) (hx : x < 8) (hy : y < 8) (q1 : τ 44 (w / 32) = nI x) (q2 : τ 44 (w / 4 % 8) = nI y) (h57 : ∀ r, r < 256 → τ 57 r = 0 ∨ τ 57 r = 1) : f_Mo_nearOf N 42 τ (nI w) = some (NRx (τ 57) x y (w % 4), τ) := by
  obtain ⟨r1, r2, r3, r4, r5⟩ := rule3 w hw
  unfold f_Mo_nearOf
  rw [r4, r2, ogd_t _ (inb_n (i := w / 32) (by omega) (by omega)), ilet_s, ogd_t _ (inb_n (i := w / 4 % 8) (by omega) (by omega)), ilet_s, nI_clamp (by omega), nI_clamp (by omega)]
  show f_Mo_nearOf_L28 N 42 N τ (nI w) (τ 44 (w / 32)) (τ 44 (w / 4 % 8)) 0 0 = _
  rw [q1, q2]
  refine lup (fun n (s : Int32 × Int32) => f_Mo_nearOf_L28 N 42 n τ (nI w) (nI x) (nI y) s.1 s.2) (fun i s => s.1 = (if cnt (nb (τ 57) x y (w % 4)) i = 0 then 0 else 1) ∧ s.2 = nI i) (fun z => z = some (NRx (τ 57) x y (w % 4), τ)) 4 ?_ ?_ N 0 (0, 0) (Nat.zero_le _) (by omega) ⟨rfl, rfl⟩
  · rintro n ⟨s1, s2⟩ ⟨h1, h2⟩
    dsimp only at h1 h2 ⊢
    subst h1; subst h2
    show f_Mo_nearOf_L28b N 42 _ τ _ _ _ _ _ = _
    unfold f_Mo_nearOf_L28b
    rw [if_pos (show (4 : Int32) ≤ nI 4 from by decide), r3, li32, li4, pk_mul, pk_mul, nI_add, nI_add, ogd_t _ (inb_n (by omega) (by omega)), nI_clamp (by omega)]
    show (if τ 57 (32 * y + 4 * x + w % 4) = 0 then _ else _) = _
    unfold NRx
    rcases h57 (32 * y + 4 * x + w % 4) (by omega) with q | q
    · rw [if_pos q, if_neg (show ¬ τ 57 (32 * y + 4 * x + w % 4) = 1 by rw [q]; decide)]
    · rw [if_neg (show ¬ τ 57 (32 * y + 4 * x + w % 4) = 0 by rw [q]; decide), if_pos q]
  · rintro n d ⟨s1, s2⟩ hd ⟨h1, h2⟩
    dsimp only at h1 h2 ⊢
    subst h1; subst h2
    refine Or.inr ⟨((if cnt (nb (τ 57) x y (w % 4)) (d + 1) = 0 then 0 else 1), nI (d + 1)), ?_, rfl, rfl⟩
    show f_Mo_nearOf_L28b N 42 _ τ _ _ _ _ _ = _
    unfold f_Mo_nearOf_L28b
    rw [if_neg (show ¬ (4 : Int32) ≤ nI d from nI_ge (b := 4) hd (by omega)), r3]
    by_cases q : d = w % 4
    · rw [if_pos (show nI d = nI (w % 4) by rw [← q]), ilet_s, nI_1, cnt, show nb (τ 57) x y (w % 4) d = false by unfold nb; rw [show (d == w % 4) = true from beq_iff_eq.mpr q]; rfl]
      rfl
    · rw [if_neg (show ¬ nI d = nI (w % 4) from fun e => q ((nI_eq (by omega) (by omega)).mp e)), li32, li4, pk_mul, pk_mul, nI_add, nI_add, ogd_t _ (inb_n (by omega) (by omega)), nI_clamp (by omega)]
      show (if τ 57 (32 * x + 4 * y + d) = 0 then _ else _) = _
      rcases h57 (32 * x + 4 * y + d) (by omega) with q5 | q5
      · rw [if_pos q5, ilet_s, nI_1, cnt, show nb (τ 57) x y (w % 4) d = false by unfold nb; rw [q5, show ((0 : Int32) == 1) = false from rfl, Bool.and_false]]
        rfl
      · rw [if_neg (show ¬ τ 57 (32 * x + 4 * y + d) = 0 by rw [q5]; decide), ilet_s, nI_1, cnt, show nb (τ 57) x y (w % 4) d = true by unfold nb; rw [q5, show (d == w % 4) = false from beq_eq_false_iff_ne.mpr q]; rfl]
        rw [if_neg (show ¬ cnt (nb (τ 57) x y (w % 4)) d + (if true = true then 1 else 0) = 0 by rw [if_pos rfl]; omega)]
theorem modd_step {N n R t i w : Nat} {τ υ : Hp} {day : Int32} {K : Hp → Int32 → Int32 → OR} (hN : 1000 ≤ N) (hP : IvP τ n 1 R) (hs : Sx cOm τ υ) (ht : t ≤ 300) (hi : i < t) (hw : w < 256) (e1 : τ 45 i = nI w) (e4 : υ 42 4 = nI t) {c : Nat} (hc : c < 300) (e38 : υ 42 38 = nI c) : ((τ 46 i = day ∧ ¬ LTw τ w) → f_Mo_odd_L28b N 42 K υ day (nI i) = K (upR (upR (upR (upR υ 63 (upd (υ 63) c (nI w))) 64 (upd (υ 64) c (τ 47 i))) 65 (upd (υ 65) c (NR τ w))) 42 (upd (υ 42) 38 (nI (c + 1)))) day (nI (i + 1))) ∧ (¬ (τ 46 i = day ∧ ¬ LTw τ w) → f_Mo_odd_L28b N 42 K υ day (nI i) = K υ day (nI (i + 1))) := by
  obtain ⟨r1, r2, r3, r4, r5⟩ := rule3 w hw
  have hIR := hP.2.2.2.2.2.1
  have hR := hIR.1
  have w44 : ∀ j, j < 8 → υ 44 j = τ 12 j := fun j hj => (hs 44 j rfl).trans (hIR.2.1 j hj).1
  have h57 := hP.2.2.2.2.2.2.1.1
  have w57 : υ 57 = τ 57 := hs.row 57 (fun _ => rfl)
  have e : f_Mo_odd_L28b N 42 K υ day (nI i) = if τ 46 i = day then (if τ 12 (w / 32) = (-1) then f_Mo_odd_J88 N 42 K υ day (nI i) (nI w) else (if τ 12 (w / 4 % 8) = (-1) then f_Mo_odd_J88 N 42 K υ day (nI i) (nI w) else f_Mo_odd_J89 N 42 K υ day (nI i) (nI w) 1)) else K υ day (nI (i + 1)) := by
    unfold f_Mo_odd_L28b
    rw [e4, if_neg (nI_ge hi (by omega)), ogd_t _ (inb_n (by omega) (by omega)), nI_clamp (by omega), ogd_t _ (inb_n (by omega) (by omega)), ilet_s, ilet_s, nI_1]
    show (if υ 46 i = day then ogd (inb (υ 45 i / 32) 8) (if υ 44 (Int32.toNatClampNeg (υ 45 i / 32)) = (-1) then f_Mo_odd_J88 N 42 K υ day (nI i) (υ 45 i) else ogd (inb (υ 45 i / 4 - υ 45 i / 4 / 8 * 8) 8) (if υ 44 (Int32.toNatClampNeg (υ 45 i / 4 - υ 45 i / 4 / 8 * 8)) = (-1) then f_Mo_odd_J88 N 42 K υ day (nI i) (υ 45 i) else f_Mo_odd_J89 N 42 K υ day (nI i) (υ 45 i) 1)) else _) = _
    rw [hs 46 i rfl, hs 45 i rfl, e1, r4, r2, ogd_t _ (inb_n (i := w / 32) (by omega) (by omega)), ogd_t _ (inb_n (i := w / 4 % 8) (by omega) (by omega)), nI_clamp (by omega), nI_clamp (by omega), w44 _ (by omega), w44 _ (by omega)]
  have j107 : ∀ v4 : Int32, (v4 = 0 ∧ NR τ w = 0 ∨ v4 = 1 ∧ ∃ x y, x < 8 ∧ y < 8 ∧ τ 12 (w / 32) = nI x ∧ τ 12 (w / 4 % 8) = nI y) → f_Mo_odd_J107 N 42 K υ day (nI i) (nI w) v4 = K (upR (upR (upR (upR υ 63 (upd (υ 63) c (nI w))) 64 (upd (υ 64) c (τ 47 i))) 65 (upd (υ 65) c (NR τ w))) 42 (upd (υ 42) 38 (nI (c + 1)))) day (nI (i + 1)) := by
    intro v4 hv4
    unfold f_Mo_odd_J107
    rw [e38, ogd_t _ (inb_n hc (by omega)), ilet_s, nI_clamp (by omega), ogd_t _ (inb_n (i := i) (by omega) (by omega)), nI_clamp (by omega)]
    show ogd (inb (υ 42 38) 300) (ilet (upR (upR υ 63 (upd (υ 63) c (nI w))) 64 (upd (υ 64) (Int32.toNatClampNeg (υ 42 38)) (υ 47 i))) _) = _
    rw [e38, ogd_t _ (inb_n hc (by omega)), ilet_s, nI_clamp (by omega), hs 47 i rfl]
    rcases hv4 with ⟨rfl, hnr⟩ | ⟨rfl, x, y, hx, hy, q1, q2⟩
    · rw [if_pos rfl]
      show ogd (inb (υ 42 38) 300) (ilet (upR (upR (upR υ 63 (upd (υ 63) c (nI w))) 64 (upd (υ 64) c (τ 47 i))) 65 (upd (υ 65) (Int32.toNatClampNeg (υ 42 38)) 0)) _) = _
      rw [e38, ogd_t _ (inb_n hc (by omega)), ilet_s, nI_clamp (by omega), ilet_s, ilet_s, nI_1, hnr]
      show K (upR _ 42 (upd (υ 42) 38 (υ 42 38 + 1))) _ _ = _
      rw [e38, nI_1]
    · rw [if_neg (show ¬ (1 : Int32) = 0 by decide)]
      have hnear : f_Mo_nearOf N 42 (upR (upR υ 63 (upd (υ 63) c (nI w))) 64 (upd (υ 64) c (τ 47 i))) (nI w) = some (NR τ w, upR (upR υ 63 (upd (υ 63) c (nI w))) 64 (upd (υ 64) c (τ 47 i))) := by
        rw [mnear_y (τ := upR (upR υ 63 (upd (υ 63) c (nI w))) 64 (upd (υ 64) c (τ 47 i))) hN hw hx hy (show υ 44 (w / 32) = nI x from (w44 _ (by omega)).trans q1) (show υ 44 (w / 4 % 8) = nI y from (w44 _ (by omega)).trans q2) (by show ∀ r, r < 256 → υ 57 r = 0 ∨ υ 57 r = 1; rw [w57]; exact h57)]
        show some (NRx (υ 57) x y (w % 4), _) = _
        rw [w57]
        unfold NR
        rw [if_neg (show ¬ (τ 12 (w / 32) = (-1) ∨ τ 12 (w / 4 % 8) = (-1)) from fun e => e.elim (fun e => nm1_ne (by omega) (q1.symm.trans e)) (fun e => nm1_ne (by omega) (q2.symm.trans e))), q1, q2, nI_clamp (by omega), nI_clamp (by omega)]
      rw [hnear, obd_s]
      show ogd (inb (υ 42 38) 300) (ilet (upR (upR (upR υ 63 (upd (υ 63) c (nI w))) 64 (upd (υ 64) c (τ 47 i))) 65 (upd (υ 65) (Int32.toNatClampNeg (υ 42 38)) (NR τ w))) _) = _
      rw [e38, ogd_t _ (inb_n hc (by omega)), ilet_s, nI_clamp (by omega), ilet_s, ilet_s, nI_1]
      show K (upR _ 42 (upd (υ 42) 38 (υ 42 38 + 1))) _ _ = _
      rw [e38, nI_1]
  rw [e]
  by_cases qd : τ 46 i = day
  · rw [if_pos qd]
    rcases hIR.b (w / 32) (by omega) with q1 | ⟨x, hx, q1⟩
    · rw [if_pos q1]
      have hno : ¬ LTw τ w := fun ⟨x, y, h1, h2, h3, h4⟩ => absurd (q1.symm.trans h3) (nm1_ne' (by omega))
      refine ⟨fun _ => ?_, fun h => absurd ⟨qd, hno⟩ h⟩
      show f_Mo_odd_J89 N 42 K υ day (nI i) (nI w) 0 = _
      unfold f_Mo_odd_J89
      rw [if_pos rfl, j107 0 (Or.inl ⟨rfl, by unfold NR; rw [if_pos (Or.inl q1)]⟩)]
    · rw [if_neg (show ¬ τ 12 (w / 32) = (-1) by rw [q1]; exact nm1_ne (by omega))]
      rcases hIR.b (w / 4 % 8) (by omega) with q2 | ⟨y, hy, q2⟩
      · rw [if_pos q2]
        have hno : ¬ LTw τ w := fun ⟨x, y, h1, h2, h3, h4, h5⟩ => absurd (q2.symm.trans h4) (nm1_ne' (by omega))
        refine ⟨fun _ => ?_, fun h => absurd ⟨qd, hno⟩ h⟩
        show f_Mo_odd_J89 N 42 K υ day (nI i) (nI w) 0 = _
        unfold f_Mo_odd_J89
        rw [if_pos rfl, j107 0 (Or.inl ⟨rfl, by unfold NR; rw [if_pos (Or.inr q2)]⟩)]
      · rw [if_neg (show ¬ τ 12 (w / 4 % 8) = (-1) by rw [q2]; exact nm1_ne (by omega))]
        have hiff : LTw τ w ↔ (x = y ∨ τ 57 (32 * x + 4 * y + w % 4) = 1) := by
          constructor
          · rintro ⟨x', y', h1, h2, h3, h4, h5⟩
            have a1 := (nI_eq (by omega) (by omega)).mp (q1.symm.trans h3)
            have a2 := (nI_eq (by omega) (by omega)).mp (q2.symm.trans h4)
            subst a1; subst a2; exact h5
          · exact fun h => ⟨x, y, by omega, by omega, q1, q2, h⟩
        have hlb := letsBy_y (N := N) (τ := υ) (w := w) (x := x) (y := y) hw (by omega) (by omega) ((w44 _ (by omega)).trans q1) ((w44 _ (by omega)).trans q2) (by rw [w57]; exact h57 _ (by omega))
        rw [w57] at hlb
        have ej : f_Mo_odd_J89 N 42 K υ day (nI i) (nI w) 1 = if (if x = y then (1 : Int32) else if τ 57 (32 * x + 4 * y + w % 4) = 1 then 2 else 0) ≤ 0 then f_Mo_odd_J107 N 42 K υ day (nI i) (nI w) 1 else K υ day (nI (i + 1)) := by
          unfold f_Mo_odd_J89
          rw [if_neg (show ¬ (1 : Int32) = 0 by decide), hlb, obd_s, ilet_s, nI_1]
        rw [ej]
        by_cases ql : x = y ∨ τ 57 (32 * x + 4 * y + w % 4) = 1
        · refine ⟨fun h => absurd (hiff.mpr ql) h.2, fun _ => ?_⟩
          by_cases q6 : x = y
          · rw [if_pos q6, if_neg (by decide)]
          · rw [if_neg q6, if_pos (ql.resolve_left q6), if_neg (by decide)]
        · refine ⟨fun _ => ?_, fun h => absurd ⟨qd, fun e => ql (hiff.mp e)⟩ h⟩
          rw [if_neg (fun e : x = y => ql (Or.inl e)), if_neg (fun e : τ 57 (32 * x + 4 * y + w % 4) = 1 => ql (Or.inr e)), if_pos (by decide), j107 1 (Or.inr ⟨rfl, x, y, by omega, by omega, q1, q2⟩)]
  · rw [if_neg qd]
    exact ⟨fun h => absurd h.1 qd, fun _ => rfl⟩
theorem modd_y {N n R t : Nat} {τ υ : Hp} {day : Int32} (hN : 1000 ≤ N) (hT : IvT τ n t) (hP : IvP τ n 1 R) (hs : Sx cOm τ υ) (h0 : υ 42 38 = nI 0) : ∃ υ', f_Mo_odd_L28 N 42 N υ day 0 = some (nI (cnt (ob (oddP τ day)) t), υ') ∧ Sx cOm τ υ' ∧ υ' 42 38 = nI (cnt (ob (oddP τ day)) t) ∧ ∀ k, k < t → oddP τ day k → υ' 63 (cnt (ob (oddP τ day)) k) = τ 7 k ∧ υ' 64 (cnt (ob (oddP τ day)) k) = τ 9 k ∧ υ' 65 (cnt (ob (oddP τ day)) k) = NR τ (wk τ k) := by
  obtain ⟨ht, t1, t2, t3⟩ := hT
  refine lup (fun n' (s : Hp × Int32) => f_Mo_odd_L28 N 42 n' s.1 day s.2) (fun i s => i ≤ t ∧ (Sx cOm τ s.1 ∧ s.1 42 38 = nI (cnt (ob (oddP τ day)) i) ∧ ∀ k, k < i → oddP τ day k → s.1 63 (cnt (ob (oddP τ day)) k) = τ 7 k ∧ s.1 64 (cnt (ob (oddP τ day)) k) = τ 9 k ∧ s.1 65 (cnt (ob (oddP τ day)) k) = NR τ (wk τ k)) ∧ s.2 = nI i) (fun z => ∃ υ', z = some (nI (cnt (ob (oddP τ day)) t), υ') ∧ Sx cOm τ υ' ∧ υ' 42 38 = nI (cnt (ob (oddP τ day)) t) ∧ ∀ k, k < t → oddP τ day k → υ' 63 (cnt (ob (oddP τ day)) k) = τ 7 k ∧ υ' 64 (cnt (ob (oddP τ day)) k) = τ 9 k ∧ υ' 65 (cnt (ob (oddP τ day)) k) = NR τ (wk τ k)) t ?_ ?_ N 0 (υ, 0) (Nat.zero_le _) (by omega) ⟨Nat.zero_le _, ⟨hs, h0, fun k hk => absurd hk (Nat.not_lt_zero k)⟩, rfl⟩
  · rintro n' ⟨ω, s2⟩ ⟨-, ⟨g1, g2, g3⟩, g4⟩
    dsimp only at g1 g2 g3 g4 ⊢
    subst g4
    refine ⟨ω, ?_, g1, g2, g3⟩
    show f_Mo_odd_L28b N 42 _ ω _ _ = _
    unfold f_Mo_odd_L28b
    rw [g1 42 4 rfl, t2, if_pos (nI_le (Nat.le_refl _) (by omega)), g2]
  · rintro n' i ⟨ω, s2⟩ hi ⟨-, ⟨g1, g2, g3⟩, g4⟩
    dsimp only at g1 g2 g3 g4 ⊢
    subst g4
    obtain ⟨w, y, z, x1, x2, x3, x4, e1, e2, e3, e4, e5, e6⟩ := t3 i hi
    have ew : wk τ i = w := by unfold wk; rw [e1, nI_clamp (by have := x1.1; omega)]
    have hci := cn_le (ob (oddP τ day)) i
    have hst := modd_step (N := N) (τ := τ) (υ := ω) (day := day) (K := f_Mo_odd_L28 N 42 n') hN hP g1 ht hi x1.1 e2 ((g1 42 4 rfl).trans t2) (show cnt (ob (oddP τ day)) i < 300 by omega) g2
    have hiff : (τ 46 i = day ∧ ¬ LTw τ w) ↔ oddP τ day i := by
      unfold oddP; rw [ew, e3, e4]
    refine Or.inr ?_
    show ∃ s' : Hp × Int32, f_Mo_odd_L28b N 42 _ ω _ _ = _ ∧ _
    by_cases q : oddP τ day i
    · rw [hst.1 (hiff.mpr q)]
      refine ⟨(_, nI (i + 1)), rfl, by omega, ⟨(((g1.tr (Sx.ud rfl)).tr (Sx.ud rfl)).tr (Sx.ud rfl)).tr (Sx.ud rfl), by rw [cn_y q]; rfl, fun k hk hp => ?_⟩, rfl⟩
      show upd (ω 63) (cnt (ob (oddP τ day)) i) (nI w) (cnt (ob (oddP τ day)) k) = τ 7 k ∧ upd (ω 64) (cnt (ob (oddP τ day)) i) (τ 47 i) (cnt (ob (oddP τ day)) k) = τ 9 k ∧ upd (ω 65) (cnt (ob (oddP τ day)) i) (NR τ w) (cnt (ob (oddP τ day)) k) = NR τ (wk τ k)
      rcases Nat.lt_or_ge k i with q2 | q2
      · have := cn_lt (P := oddP τ day) hp q2
        rw [upd_at, upd_at, upd_at, if_neg (by omega), if_neg (by omega), if_neg (by omega)]
        exact g3 k q2 hp
      · have : k = i := by omega
        subst this
        rw [upd_eq, upd_eq, upd_eq, ew, e1, e5, e6]; exact ⟨rfl, rfl, rfl⟩
    · rw [hst.2 (fun e => q (hiff.mp e))]
      refine ⟨(ω, nI (i + 1)), rfl, by omega, ⟨g1, by rw [cn_n q]; exact g2, fun k hk hp => ?_⟩, rfl⟩
      rcases Nat.lt_or_ge k i with q2 | q2
      · exact g3 k q2 hp
      · have : k = i := by omega
        subst this; exact absurd hp q
def cOa (k j : Nat) : Bool := cOc k j || cOm k j
theorem ok_odd (N : Nat) (hN : 1000 ≤ N) : op_odd N Inv := by
  intro v1 τ hI
  have hI0 := hI
  obtain ⟨n, t, wi, le, rp, sp, mk, R, hH, hT, hB, hL, hP, hS, hO⟩ := hI
  have hn := hH.1
  have no : ∀ {r}, (f_WP_odd N 0 τ v1 = some (r, τ)) → (f_Mo_odd N 42 τ v1 = some (r, upR τ 42 (upd (τ 42) 0 0))) → ∃ (r : Int32) (τ1 τ2 : Hp), f_WP_odd N 0 τ v1 = some (r, τ1) ∧ f_Mo_odd N 42 τ1 v1 = some (r, τ2) ∧ Inv τ2 := fun q1 q2 => ⟨_, τ, _, q1, q2, th0 (N := N) hI0⟩
  by_cases hd : ∃ d, d ≤ 99 ∧ v1 = nI d
  · obtain ⟨d, hd, rfl⟩ := hd
    rcases hP.1 with hmk | hmk
    · subst hmk
      refine no (r := (-1)) ?_ ?_
      · unfold f_WP_odd
        show (if τ 10 5 = 0 then _ else _) = _
        rw [hP.2.2.2.1, if_pos (show nI 0 = 0 from rfl)]
      · unfold f_Mo_odd
        rw [mth, mday_y hd, obd_s, if_neg (by decide)]
        show (if τ 42 19 = 0 then _ else _) = _
        rw [hP.2.2.2.2.1, if_pos (show nI 0 = 0 from rfl)]
    · subst hmk
      obtain ⟨τ1, a1, a2, a3, a4⟩ := gather_y (N := N) (day := nI d) hN hT hn hP
      have x4a : τ1 42 = τ 42 := a2.row 42 (fun _ => rfl)
      have hT1 : IvT τ1 n t := hT.cg a2 (fun _ => ⟨rfl, rfl, rfl, rfl, rfl, rfl, rfl, rfl⟩)
      have hP1 : IvP τ1 n 1 R := hP.cg a2 (fun _ => ⟨rfl, rfl, rfl, rfl, rfl, rfl, rfl, rfl, rfl, rfl, rfl, rfl, rfl, rfl⟩)
      have hodd : oddP τ1 (nI d) = oddP τ (nI d) := by
        funext k
        unfold oddP LTw wk
        rw [a2.row 8 (fun _ => rfl), a2.row 7 (fun _ => rfl), a2.row 12 (fun _ => rfl), a2.row 57 (fun _ => rfl)]
      have hNR : NR τ1 = NR τ := by
        funext w
        unfold NR
        rw [a2.row 12 (fun _ => rfl), a2.row 57 (fun _ => rfl)]
      have hwk : wk τ1 = wk τ := by
        funext k
        unfold wk
        rw [a2.row 7 (fun _ => rfl)]
      obtain ⟨τ2, b1, b2, b3, b4⟩ := modd_y (N := N) (τ := τ1) (υ := upR (upR τ1 42 (upd (τ1 42) 0 0)) 42 (upd (upd (τ1 42) 0 0) 38 0)) (day := nI d) hN hT1 hP1 (Sx.tr (τ1 := upR τ1 42 (upd (τ1 42) 0 0)) (Sx.ud rfl) (Sx.ud (k := 42) (i := 38) rfl)) rfl
      rw [hodd, hNR, hwk] at b4
      rw [hodd] at b1 b3
      refine ⟨nI (cnt (ob (oddP τ (nI d))) t), τ1, τ2, ?_, ?_, ?_⟩
      · show f_WP_odd N 0 τ (nI d) = _
        unfold f_WP_odd
        show (if τ 10 5 = 0 then _ else _) = _
        rw [hP.2.2.2.1, if_neg (show ¬ nI 1 = 0 by decide), day_y hd, obd_s, if_neg (by decide)]
        show obd (f_Od_gather N 39 6 11 τ _) _ = _
        rw [a1, obd_s]
        show some (τ1 39 2, τ1) = _
        rw [a3]
      · show f_Mo_odd N 42 τ1 (nI d) = _
        unfold f_Mo_odd
        rw [mth, mday_y hd, obd_s, if_neg (by decide)]
        show (if τ1 42 19 = 0 then _ else _) = _
        rw [hP1.2.2.2.2.1, if_neg (show ¬ nI 1 = 0 by decide), ilet_s]
        exact b1
      · have hx : Sx cOa τ τ2 := (a2.mono (fun k j q => (Bool.or_eq_false_iff.mp q).1)).tr (b2.mono (fun k j q => (Bool.or_eq_false_iff.mp q).2))
        refine ⟨n, t, wi, le, rp, sp, 1, R, hH.cg hx (fun _ => ⟨rfl, rfl, rfl, rfl⟩), hT.cg hx (fun _ => ⟨rfl, rfl, rfl, rfl, rfl, rfl, rfl, rfl⟩), hB.cg hx (fun _ => ⟨rfl, rfl, rfl, rfl⟩), hL.cg hx ⟨rfl, rfl, rfl, rfl, rfl, rfl, rfl, rfl, rfl, rfl⟩, hP.cg hx (fun _ => ⟨rfl, rfl, rfl, rfl, rfl, rfl, rfl, rfl, rfl, rfl, rfl, rfl, rfl, rfl⟩), hS.cg hx (fun _ => ⟨rfl, rfl, rfl, rfl⟩), cnt (ob (oddP τ (nI d))) t, ?_, ?_, b3, fun j hj => ?_⟩
        · have := cn_le (ob (oddP τ (nI d))) t; have := hT.1; omega
        · rw [b2 39 2 rfl]; exact a3
        · obtain ⟨k, k1, k2, k3⟩ := cn_kth hj
          obtain ⟨c1, c2, c3⟩ := b4 k k1 k2
          obtain ⟨d1, d2⟩ := a4 k k1 k2
          rw [k3] at c1 c2 c3 d1 d2
          refine ⟨k, k1, ?_, ?_, ?_, ?_⟩
          · rw [b2 40 j rfl]; exact d1
          · rw [c1, hx 7 k rfl, a2 7 k rfl]
          · rw [c2, hx 9 k rfl, a2 9 k rfl]
          · rw [b2 41 j rfl, d2, c3]
  · refine no (r := (-1)) ?_ ?_
    · unfold f_WP_odd
      show (if τ 10 5 = 0 then _ else _) = _
      by_cases q : τ 10 5 = 0
      · rw [if_pos q]
      · rw [if_neg q, day_n hd, obd_s, if_pos rfl]
    · unfold f_Mo_odd
      rw [mth, mday_n hd, obd_s, if_pos rfl]
