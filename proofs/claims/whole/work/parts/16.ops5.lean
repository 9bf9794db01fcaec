theorem cnt_s {p : Nat → Bool} {n : Nat} : cnt p (n + 1) = cnt p n + if p n then 1 else 0 := rfl
theorem cq_s {q : Nat → Int32} {n : Nat} : cq q (n + 1) = cq q n + if q n = 1 then 1 else 0 := by
  unfold cq; rw [cnt_s]
  by_cases h : q n = 1
  · rw [if_pos h, if_pos (by rw [h]; rfl)]
  · rw [if_neg h, if_neg (fun e => h (eq_of_beq e))]
theorem cq_le {q : Nat → Int32} : ∀ n, cq q n ≤ n
  | 0 => Nat.le_refl _
  | n + 1 => by have := cq_le (q := q) n; rw [cq_s]; by_cases h : q n = 1 <;> simp only [h, if_true, if_false] <;> omega
theorem cq_mono {q : Nat → Int32} {m : Nat} : ∀ n, m ≤ n → cq q m ≤ cq q n
  | 0, h => by have : m = 0 := by omega
               subst this; exact Nat.le_refl _
  | n + 1, h => by
    rcases Nat.lt_or_ge n m with q' | q'
    · have : m = n + 1 := by omega
      subst this; exact Nat.le_refl _
    · have := cq_mono (q := q) n q'; rw [cq_s]; omega
theorem ok_count (N : Nat) (hN : 1000 ≤ N) : op_count N Inv := by
  intro v1
  refine ok_read (fun τ hI => ?_)
  obtain ⟨n, t, wi, le, rp, sp, mk, R, hH, hT, hB, hL, hP, hS, hO⟩ := id hI
  obtain ⟨p1, p2, p3, p4, p5, p6, p7, p8, p9, p10, p11, p12⟩ := hP
  have e0 : τ 1 3 = τ 42 1 := hH.2.1.trans hH.2.2.1.symm
  have e1 : τ 6 3 = τ 42 4 := hT.2.1.trans hT.2.2.1.symm
  refine ⟨if v1 = 0 then τ 1 3 else if v1 = 1 then τ 6 3 else if v1 = 2 then nI R else if v1 = 3 then τ 10 3 else if v1 = 4 then τ 11 3 else if v1 = 5 then (if τ 10 5 = 0 then (-1) else τ 10 4) else (-1), τ, ?_, Sx.rf, fun υ hυ hs => ?_⟩
  · unfold f_WP_count
    show (if v1 = 0 then some (τ 1 3, τ) else if v1 = 1 then some (τ 6 3, τ) else if v1 = 2 then obd (f_Ly_roomCount N 11 τ) _ else if v1 = 3 then some (τ 10 3, τ) else if v1 = 4 then some (τ 11 3, τ) else if v1 = 5 then (if τ 10 5 = 0 then some ((-1), τ) else some (τ 10 4, τ)) else some ((-1), τ)) = _
    rw [roomCount_y (t := 11) hN p6.rv, obd_s, show rmx (τ (11 + 1)) 8 = R from p6.rmx hH.1]
    by_cases q0 : v1 = 0
    · rw [if_pos q0, if_pos q0]
    by_cases q1 : v1 = 1
    · rw [if_neg q0, if_neg q0, if_pos q1, if_pos q1]
    by_cases q2 : v1 = 2
    · rw [if_neg q0, if_neg q0, if_neg q1, if_neg q1, if_pos q2, if_pos q2]
    by_cases q3 : v1 = 3
    · rw [if_neg q0, if_neg q0, if_neg q1, if_neg q1, if_neg q2, if_neg q2, if_pos q3, if_pos q3]
    by_cases q4 : v1 = 4
    · rw [if_neg q0, if_neg q0, if_neg q1, if_neg q1, if_neg q2, if_neg q2, if_neg q3, if_neg q3, if_pos q4, if_pos q4]
    by_cases q5 : v1 = 5
    · rw [if_neg q0, if_neg q0, if_neg q1, if_neg q1, if_neg q2, if_neg q2, if_neg q3, if_neg q3, if_neg q4, if_neg q4, if_pos q5, if_pos q5]
      by_cases q6 : τ 10 5 = 0
      · rw [if_pos q6, if_pos q6]
      · rw [if_neg q6, if_neg q6]
    · rw [if_neg q0, if_neg q0, if_neg q1, if_neg q1, if_neg q2, if_neg q2, if_neg q3, if_neg q3, if_neg q4, if_neg q4, if_neg q5, if_neg q5]
  · refine ⟨upR υ 42 (upd (υ 42) 0 0), ?_, sxT υ⟩
    unfold f_Mo_count
    rw [mth]
    refine lup (fun n (s : Int32 × Int32) => f_Mo_count_L9 N 42 n (upR υ 42 (upd (υ 42) 0 0)) v1 s.1 s.2) (fun i s => s.1 = nI (cq (τ 57) i) ∧ s.2 = nI i) (fun z => z = some (if v1 = 0 then τ 1 3 else if v1 = 1 then τ 6 3 else if v1 = 2 then nI R else if v1 = 3 then τ 10 3 else if v1 = 4 then τ 11 3 else if v1 = 5 then (if τ 10 5 = 0 then (-1) else τ 10 4) else (-1), upR υ 42 (upd (υ 42) 0 0))) 256 ?_ ?_ N 0 (0, 0) (Nat.zero_le _) (by omega) ⟨rfl, rfl⟩
    · rintro n ⟨s1, s2⟩ ⟨h1, h2⟩
      dsimp only at h1 h2 ⊢
      subst h1; subst h2
      show f_Mo_count_L9b N 42 _ _ v1 _ _ = _
      unfold f_Mo_count_L9b
      have hrv : RV (upR υ 42 (upd (υ 42) 0 0) 44) := by
        show RV (υ 44)
        rw [hs.row 44 (fun _ => rfl)]; exact p6.rv'
      rw [if_pos (show (256 : Int32) ≤ nI 256 from by decide), roomMany_y hN hrv, obd_s, show rmx (upR υ 42 (upd (υ 42) 0 0) 44) 8 = R from by
        show rmx (υ 44) 8 = R
        rw [hs.row 44 (fun _ => rfl), rmx_cg 8 (fun j hj => (p6.2.1 j hj).1)]
        exact p6.rmx hH.1]
      show (if v1 = 0 then some (υ 42 1, _) else if v1 = 1 then some (υ 42 4, _) else if v1 = 2 then some (nI R, _) else if v1 = 3 then some (nI (cq (τ 57) 256), _) else if v1 = 4 then some (υ 42 21, _) else if v1 = 5 then (if υ 42 19 = 0 then some ((-1), _) else some (υ 42 20, _)) else some ((-1), _)) = _
      rw [hs 42 1 rfl, hs 42 4 rfl, hs 42 21 rfl, hs 42 19 rfl, hs 42 20 rfl, ← e0, ← e1, p11, p12, p5, ← p4, ← p7.2.2.1]
      by_cases q0 : v1 = 0
      · rw [if_pos q0, if_pos q0]
      by_cases q1 : v1 = 1
      · rw [if_neg q0, if_neg q0, if_pos q1, if_pos q1]
      by_cases q2 : v1 = 2
      · rw [if_neg q0, if_neg q0, if_neg q1, if_neg q1, if_pos q2, if_pos q2]
      by_cases q3 : v1 = 3
      · rw [if_neg q0, if_neg q0, if_neg q1, if_neg q1, if_neg q2, if_neg q2, if_pos q3, if_pos q3]
      by_cases q4 : v1 = 4
      · rw [if_neg q0, if_neg q0, if_neg q1, if_neg q1, if_neg q2, if_neg q2, if_neg q3, if_neg q3, if_pos q4, if_pos q4]
      by_cases q5 : v1 = 5
      · rw [if_neg q0, if_neg q0, if_neg q1, if_neg q1, if_neg q2, if_neg q2, if_neg q3, if_neg q3, if_neg q4, if_neg q4, if_pos q5, if_pos q5]
        by_cases q6 : τ 10 5 = 0
        · rw [if_pos q6, if_pos q6]
        · rw [if_neg q6, if_neg q6]
      · rw [if_neg q0, if_neg q0, if_neg q1, if_neg q1, if_neg q2, if_neg q2, if_neg q3, if_neg q3, if_neg q4, if_neg q4, if_neg q5, if_neg q5]
    · rintro n i ⟨s1, s2⟩ hi ⟨h1, h2⟩
      dsimp only at h1 h2 ⊢
      subst h1; subst h2
      refine Or.inr ?_
      show ∃ s' : Int32 × Int32, f_Mo_count_L9b N 42 _ _ v1 _ _ = _ ∧ _
      unfold f_Mo_count_L9b
      rw [if_neg (show ¬ (256 : Int32) ≤ nI i from nI_ge (b := 256) hi (by omega)), ogd_t _ (inb_n hi (by omega)), nI_clamp (by omega)]
      show ∃ s' : Int32 × Int32, (if υ 57 i = 0 then _ else _) = _ ∧ _
      rw [hs 57 i rfl]
      rcases p7.1 i hi with q | q
      · rw [if_pos q, ilet_s, ilet_s]
        refine ⟨(nI (cq (τ 57) i), nI (i + 1)), ?_, ?_, rfl⟩
        · rw [li0, nI_add, nI_succ]; rfl
        · rw [cq_s, if_neg (by rw [q]; decide)]; rfl
      · rw [if_neg (by rw [q]; decide), ilet_s, ilet_s]
        refine ⟨(nI (cq (τ 57) i + 1), nI (i + 1)), ?_, ?_, rfl⟩
        · rw [nI_succ, nI_succ]
        · rw [cq_s, if_pos q]
theorem areIn_y {N a b : Nat} {τ : Hp} (ha : a < 8) (hb : b < 8) : f_Ly_areIn N 11 τ (nI a) (nI b) = some (if τ 12 a ≠ (-1) ∧ τ 12 b ≠ (-1) then 1 else 0, τ) := by
  unfold f_Ly_areIn
  rw [ogd_t _ (inb_n ha (by omega)), nI_clamp (by omega), ogd_t _ (inb_n hb (by omega)), nI_clamp (by omega)]
  show (if τ 12 a = (-1) then some (0, τ) else (if τ 12 b = (-1) then some (0, τ) else some (1, τ))) = _
  by_cases h1 : τ 12 a = (-1)
  · rw [if_pos h1, if_neg (fun q => q.1 h1)]
  · rw [if_neg h1]
    by_cases h2 : τ 12 b = (-1)
    · rw [if_pos h2, if_neg (fun q => q.2 h2)]
    · rw [if_neg h2, if_pos ⟨h1, h2⟩]
theorem between_y {N a b x y : Nat} {τ : Hp} (ha : a < 8) (hb : b < 8) (hx : x < 8) (hy : y < 8) (e1 : τ 12 a = nI x) (e2 : τ 12 b = nI y) : f_Ly_doorsBetween N 11 τ (nI a) (nI b) = some (τ 13 (8 * x + y), τ) := by
  unfold f_Ly_doorsBetween
  rw [ogd_t _ (inb_n ha (by omega)), ogd_t _ (inb_n hb (by omega)), nI_clamp (by omega), nI_clamp (by omega)]
  show obd (f_WP_pairOf N τ (τ 12 a) (τ 12 b)) _ = _
  rw [e1, e2, pairOf_y, obd_s, ogd_t _ (inb_n (by omega) (by omega)), nI_clamp (by omega)]
/-- whether a way is let: within a room, or by a rule -/
theorem isLet_y {N n R a b d x y : Nat} {τ : Hp} (hP : IvP τ n 1 R) (ha : a < 8) (hb : b < 8) (hd : d < 4) (hx : x < 8) (hy : y < 8) (e1 : τ 12 a = nI x) (e2 : τ 12 b = nI y) : f_Ly_isLet N 11 τ (nI a) (nI b) (nI d) = some (if x = y ∨ τ 57 (32 * x + 4 * y + d) = 1 then 1 else 0, τ) := by
  obtain ⟨m, hm, m1, m2, m3⟩ := hP.2.2.2.2.2.2.1.2.2.2.2.2 rfl (8 * x + y) (by omega)
  have hin : τ 12 a ≠ (-1) ∧ τ 12 b ≠ (-1) := ⟨by rw [e1]; exact nm1_ne (by omega), by rw [e2]; exact nm1_ne (by omega)⟩
  unfold f_Ly_isLet
  rw [areIn_y ha hb, obd_s, if_pos hin, if_neg (show ¬ (1 : Int32) = 0 by decide), between_y ha hb hx hy e1 e2, obd_s, m1, door_y hm hd, obd_s]
  have hiff : m.testBit d = true ↔ (x = y ∨ τ 57 (32 * x + 4 * y + d) = 1) := by
    by_cases q : x = y
    · rw [m2 (by omega)]
      exact ⟨fun _ => Or.inl q, fun _ => by rcases (show d = 0 ∨ d = 1 ∨ d = 2 ∨ d = 3 by omega) with rfl | rfl | rfl | rfl <;> decide⟩
    · rw [m3 (by omega) d hd, show 4 * (8 * x + y) + d = 32 * x + 4 * y + d by omega]
      exact ⟨Or.inr, fun h => h.elim (fun e => absurd e q) id⟩
  by_cases q : m.testBit d = true
  · rw [if_pos q, if_neg (by decide), if_pos (hiff.mp q)]
  · rw [if_neg q, if_pos rfl, if_neg (fun h => q (hiff.mpr h))]
theorem letsBy_y {N w x y : Nat} {τ : Hp} (hw : w < 256) (hx : x < 8) (hy : y < 8) (e1 : τ 44 (w / 32) = nI x) (e2 : τ 44 (w / 4 % 8) = nI y) (h01 : τ 57 (32 * x + 4 * y + w % 4) = 0 ∨ τ 57 (32 * x + 4 * y + w % 4) = 1) : f_Mo_letsBy N 42 τ (nI w) = some (if x = y then 1 else if τ 57 (32 * x + 4 * y + w % 4) = 1 then 2 else 0, τ) := by
  obtain ⟨r1, r2, r3, r4, r5⟩ := rule3 w hw
  unfold f_Mo_letsBy
  rw [r4, r2, r3, ogd_t _ (inb_n (i := w / 32) (by omega) (by omega)), ilet_s, ogd_t _ (inb_n (i := w / 4 % 8) (by omega) (by omega)), ilet_s, nI_clamp (by omega), nI_clamp (by omega)]
  show (if τ 44 (w / 32) = τ 44 (w / 4 % 8) then _ else ogd (inb (32 * τ 44 (w / 32) + 4 * τ 44 (w / 4 % 8) + nI (w % 4)) 256) (if τ 57 (Int32.toNatClampNeg (32 * τ 44 (w / 32) + 4 * τ 44 (w / 4 % 8) + nI (w % 4))) = 0 then _ else _)) = _
  rw [e1, e2, li32, li4, pk_mul, pk_mul, nI_add, nI_add, ogd_t _ (inb_n (by omega) (by omega)), nI_clamp (by omega)]
  by_cases q : x = y
  · rw [if_pos (by rw [q]), if_pos q]
  · rw [if_neg (fun e => q ((nI_eq (by omega) (by omega)).mp e)), if_neg q]
    rcases h01 with h | h
    · rw [if_pos h, if_neg (by rw [h]; decide)]
    · rw [if_neg (by rw [h]; decide), if_pos h]
theorem ok_lets (N : Nat) : op_lets N Inv := by
  intro v1 v2 v3
  refine ok_read (fun τ hI => ?_)
  obtain ⟨n, t, wi, le, rp, sp, mk, R, hH, hT, hB, hL, hP, hS, hO⟩ := id hI
  obtain ⟨hn, h1, h2, h3⟩ := hH
  have hIR := hP.2.2.2.2.2.1
  by_cases hw : isWY n v1 v2 v3
  · obtain ⟨a, b, d, ha, hb, hab, hd, rfl, rfl, rfl⟩ := hw
    obtain ⟨z1, z2, z3⟩ := wy3 (a := a) (b := b) (d := d) (by omega) hd
    by_cases hin : τ 12 a ≠ (-1) ∧ τ 12 b ≠ (-1)
    · obtain ⟨-, x, hx, e1⟩ := (hIR.2.1 a (by omega)).2.resolve_left hin.1
      obtain ⟨-, y, hy, e2⟩ := (hIR.2.1 b (by omega)).2.resolve_left hin.2
      have hR := hIR.1
      have hmk : mk = 1 := hP.1.resolve_left (fun q => by have := hP.2.1 q; omega)
      subst hmk
      have f1 : τ 44 a = nI x := (hIR.2.1 a (by omega)).1.trans e1
      have f2 : τ 44 b = nI y := (hIR.2.1 b (by omega)).1.trans e2
      refine ⟨if x = y then 1 else if τ 57 (32 * x + 4 * y + d) = 1 then 2 else 0, τ, ?_, Sx.rf, fun υ _ hs => ⟨_, ?_, sxT υ⟩⟩
      · unfold f_WP_lets
        show obd (f_Nt_isWay N 1 τ _ _ _) _ = _
        rw [way_y hn h1 ha hb hab hd, obd_s, if_neg (by decide)]
        show obd (f_Ly_areIn N 11 τ _ _) _ = _
        rw [areIn_y (by omega) (by omega), obd_s, if_pos hin, if_neg (by decide)]
        show obd (f_Ly_isLet N 11 τ _ _ _) _ = _
        rw [isLet_y hP (by omega) (by omega) hd (by omega) (by omega) e1 e2, obd_s]
        by_cases q : x = y ∨ τ 57 (32 * x + 4 * y + d) = 1
        · rw [if_pos q, if_neg (by decide), ogd_t _ (inb_n (by omega) (by omega)), ogd_t _ (inb_n (by omega) (by omega)), nI_clamp (by omega), nI_clamp (by omega)]
          show (if τ 12 a = τ 12 b then _ else _) = _
          rw [e1, e2]
          by_cases q2 : x = y
          · rw [if_pos (by rw [q2]), if_pos q2]
          · rw [if_neg (fun e => q2 ((nI_eq (by omega) (by omega)).mp e)), if_neg q2, if_pos (q.resolve_left q2)]
        · rw [if_neg q, if_pos rfl, if_neg (fun e => q (Or.inl e)), if_neg (fun e => q (Or.inr e))]
      · unfold f_Mo_lets
        rw [mth, mway_y (n := n) (τ := upR υ 42 (upd (υ 42) 0 0)) hn ((hs 42 1 rfl).trans h2) ha hb hab hd, obd_s, if_neg (nm1_ne (by omega)), ogd_t _ (inb_n (i := a) (by omega) (by omega)), ogd_t _ (inb_n (i := b) (by omega) (by omega)), nI_clamp (by omega), nI_clamp (by omega)]
        show (if υ 44 a = (-1) then _ else (if υ 44 b = (-1) then _ else _)) = _
        rw [hs 44 a rfl, hs 44 b rfl, f1, f2, if_neg (nm1_ne (by omega)), if_neg (nm1_ne (by omega)), letsBy_y (x := x) (y := y) (by omega) (by omega) (by omega) (by rw [z1]; exact (hs 44 a rfl).trans f1) (by rw [z2]; exact (hs 44 b rfl).trans f2) (by rw [z3]; show υ 57 _ = 0 ∨ υ 57 _ = 1; rw [hs 57 _ rfl]; exact hP.2.2.2.2.2.2.1.1 _ (by omega)), obd_s, z3]
        show some (if x = y then 1 else if υ 57 (32 * x + 4 * y + d) = 1 then 2 else 0, _) = _
        rw [hs 57 _ rfl]
    · refine ⟨(-1), τ, ?_, Sx.rf, fun υ _ hs => ⟨_, ?_, sxT υ⟩⟩
      · unfold f_WP_lets
        show obd (f_Nt_isWay N 1 τ _ _ _) _ = _
        rw [way_y hn h1 ha hb hab hd, obd_s, if_neg (by decide)]
        show obd (f_Ly_areIn N 11 τ _ _) _ = _
        rw [areIn_y (by omega) (by omega), obd_s, if_neg hin, if_pos rfl]
      · unfold f_Mo_lets
        rw [mth, mway_y (n := n) (τ := upR υ 42 (upd (υ 42) 0 0)) hn ((hs 42 1 rfl).trans h2) ha hb hab hd, obd_s, if_neg (nm1_ne (by omega)), ogd_t _ (inb_n (i := a) (by omega) (by omega)), ogd_t _ (inb_n (i := b) (by omega) (by omega)), nI_clamp (by omega), nI_clamp (by omega)]
        show (if υ 44 a = (-1) then _ else (if υ 44 b = (-1) then _ else _)) = _
        rw [hs 44 a rfl, hs 44 b rfl, (hIR.2.1 a (by omega)).1, (hIR.2.1 b (by omega)).1]
        by_cases q : τ 12 a = (-1)
        · rw [if_pos q]
        · rw [if_neg q]
          by_cases q2 : τ 12 b = (-1)
          · rw [if_pos q2]
          · exact absurd ⟨q, q2⟩ hin
  · refine ⟨(-1), τ, ?_, Sx.rf, fun υ _ hs => ⟨_, ?_, sxT υ⟩⟩
    · unfold f_WP_lets
      show obd (f_Nt_isWay N 1 τ _ _ _) _ = _
      rw [way_n hn h1 hw, obd_s, if_pos rfl]
    · unfold f_Mo_lets
      rw [mth, mway_n (n := n) (τ := upR υ 42 (upd (υ 42) 0 0)) hn ((hs 42 1 rfl).trans h2) hw, obd_s, if_pos rfl]
