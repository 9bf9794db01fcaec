noncomputable def ob (P : Nat → Prop) (k : Nat) : Bool := @decide (P k) (Classical.propDecidable _)
theorem ob_t {P : Nat → Prop} {k : Nat} (h : P k) : ob P k = true := @decide_eq_true _ (Classical.propDecidable _) h
theorem ob_f {P : Nat → Prop} {k : Nat} (h : ¬ P k) : ob P k = false := @decide_eq_false _ (Classical.propDecidable _) h
theorem ob_p {P : Nat → Prop} {k : Nat} (h : ob P k = true) : P k := @of_decide_eq_true _ (Classical.propDecidable _) h
theorem cn_y {P : Nat → Prop} {k : Nat} (h : P k) : cnt (ob P) (k + 1) = cnt (ob P) k + 1 := by rw [cnt, ob_t h]; rfl
theorem cn_n {P : Nat → Prop} {k : Nat} (h : ¬ P k) : cnt (ob P) (k + 1) = cnt (ob P) k := by rw [cnt, ob_f h]; rfl
theorem cn_le (p : Nat → Bool) : ∀ n, cnt p n ≤ n
  | 0 => Nat.le_refl _
  | n + 1 => by
    have := cn_le p n
    rw [cnt]
    by_cases h : p n = true
    · rw [if_pos h]; omega
    · rw [if_neg h]; omega
theorem cn_mono (p : Nat → Bool) {m : Nat} : ∀ n, m ≤ n → cnt p m ≤ cnt p n
  | 0, h => by
    have : m = 0 := by omega
    subst this; exact Nat.le_refl _
  | n + 1, h => by
    rcases Nat.lt_or_ge n m with q | q
    · have : m = n + 1 := by omega
      subst this; exact Nat.le_refl _
    · have := cn_mono p n q
      rw [cnt]; omega
theorem cn_lt {P : Nat → Prop} {k n : Nat} (h : P k) (hk : k < n) : cnt (ob P) k < cnt (ob P) n := by
  have := cn_mono (ob P) n (show k + 1 ≤ n from hk)
  rw [cn_y h] at this; omega
theorem cn_kth {P : Nat → Prop} {j : Nat} : ∀ {n : Nat}, j < cnt (ob P) n → ∃ k, k < n ∧ P k ∧ cnt (ob P) k = j
  | 0, h => absurd h (Nat.not_lt_zero j)
  | n + 1, h => by
    rcases Nat.lt_or_ge j (cnt (ob P) n) with h1 | h1
    · obtain ⟨k, a, b⟩ := cn_kth h1
      exact ⟨k, by omega, b⟩
    · by_cases h2 : P n
      · rw [cn_y h2] at h; exact ⟨n, by omega, h2, by omega⟩
      · rw [cn_n h2] at h; omega
def wk (τ : Hp) (k : Nat) : Nat := (τ 7 k).toNatClampNeg
def LTw (τ : Hp) (w : Nat) : Prop := ∃ x y, x < 8 ∧ y < 8 ∧ τ 12 (w / 32) = nI x ∧ τ 12 (w / 4 % 8) = nI y ∧ (x = y ∨ τ 57 (32 * x + 4 * y + w % 4) = 1)
def oddP (τ : Hp) (day : Int32) (k : Nat) : Prop := τ 8 k = day ∧ ¬ LTw τ (wk τ k)
def nb (q : Nat → Int32) (x y d : Nat) (e : Nat) : Bool := !(e == d) && (q (32 * x + 4 * y + e) == 1)
/-- nearness, by rooms -/
def NRx (q : Nat → Int32) (x y d : Nat) : Int32 := (if cnt (nb q x y d) 4 = 0 then 0 else 1) + (if q (32 * y + 4 * x + d) = 1 then 2 else 0)
def NR (τ : Hp) (w : Nat) : Int32 := if τ 12 (w / 32) = (-1) ∨ τ 12 (w / 4 % 8) = (-1) then 0 else NRx (τ 57) (τ 12 (w / 32)).toNatClampNeg (τ 12 (w / 4 % 8)).toNatClampNeg (w % 4)
theorem m16 : ∀ m, m < 16 → (m = 0 ↔ ∀ d, d < 4 → m.testBit d = false) := by decide +kernel
theorem cnt_zero {p : Nat → Bool} : ∀ n, cnt p n = 0 ↔ ∀ k, k < n → p k = false
  | 0 => ⟨fun _ k hk => absurd hk (Nat.not_lt_zero k), fun _ => rfl⟩
  | n + 1 => by
    rw [cnt]
    constructor
    · intro h k hk
      have h1 : cnt p n = 0 := by omega
      rcases Nat.lt_or_ge k n with q | q
      · exact (cnt_zero n).mp h1 k q
      · have : k = n := by omega
        subst this
        cases q2 : p k
        · rfl
        · rw [q2] at h; simp at h
    · intro h
      rw [(cnt_zero n).mpr (fun k hk => h k (by omega)), h n (by omega)]; rfl
theorem areIn_f {N a b : Nat} {τ : Hp} (ha : a < 8) (hb : b < 8) (h : τ 12 a = (-1) ∨ τ 12 b = (-1)) : f_Ly_areIn N 11 τ (nI a) (nI b) = some (0, τ) := by
  rw [areIn_y ha hb, if_neg (fun e : τ 12 a ≠ (-1) ∧ τ 12 b ≠ (-1) => h.elim e.1 e.2)]
theorem areIn_t {N a b : Nat} {τ : Hp} (ha : a < 8) (hb : b < 8) (h : τ 12 a ≠ (-1) ∧ τ 12 b ≠ (-1)) : f_Ly_areIn N 11 τ (nI a) (nI b) = some (1, τ) := by
  rw [areIn_y ha hb, if_pos h]
theorem near_y {N n R w : Nat} {τ : Hp} (hP : IvP τ n 1 R) (hw : w < 256) (hno : ¬ LTw τ w) : f_Od_nearnessOf N 11 τ (nI w) = some (NR τ w, τ) := by
  have hIR := hP.2.2.2.2.2.1
  have hR := hIR.1
  unfold f_Od_nearnessOf
  rw [firstOf_y hw, obd_s, secondOf_y hw, obd_s]
  rcases hIR.b (w / 32) (by omega) with q1 | ⟨x, hx, q1⟩
  · rw [areIn_f (by omega) (by omega) (Or.inl q1), obd_s, if_pos rfl]
    unfold NR; rw [if_pos (Or.inl q1)]
  · rcases hIR.b (w / 4 % 8) (by omega) with q2 | ⟨y, hy, q2⟩
    · rw [areIn_f (by omega) (by omega) (Or.inr q2), obd_s, if_pos rfl]
      unfold NR; rw [if_pos (Or.inr q2)]
    · have hin : τ 12 (w / 32) ≠ (-1) ∧ τ 12 (w / 4 % 8) ≠ (-1) := ⟨by rw [q1]; exact nm1_ne (by omega), by rw [q2]; exact nm1_ne (by omega)⟩
      have hxy : x ≠ y := fun e => hno ⟨x, y, by omega, by omega, q1, q2, Or.inl e⟩
      have hnr : τ 57 (32 * x + 4 * y + w % 4) ≠ 1 := fun e => hno ⟨x, y, by omega, by omega, q1, q2, Or.inr e⟩
      obtain ⟨m, hm, m1, -, m3⟩ := hP.2.2.2.2.2.2.1.2.2.2.2.2 rfl (8 * x + y) (by omega)
      obtain ⟨m', hm', m1', -, m3'⟩ := hP.2.2.2.2.2.2.1.2.2.2.2.2 rfl (8 * y + x) (by omega)
      have hz : m = 0 ↔ cnt (nb (τ 57) x y (w % 4)) 4 = 0 := by
        rw [m16 m hm, cnt_zero]
        constructor
        · intro h d hd
          unfold nb
          have := h d hd
          cases q : (τ 57 (32 * x + 4 * y + d) == 1)
          · rw [Bool.and_false]
          · have q := eq_of_beq q
            have := (m3 (by omega) d hd).mpr (by rw [show 4 * (8 * x + y) + d = 32 * x + 4 * y + d by omega]; exact q)
            rw [h d hd] at this; cases this
        · intro h d hd
          cases q : m.testBit d
          · rfl
          · have q := (m3 (by omega) d hd).mp q
            rw [show 4 * (8 * x + y) + d = 32 * x + 4 * y + d by omega] at q
            have h5 := h d hd
            unfold nb at h5
            rw [q] at h5
            have hd2 : d ≠ w % 4 := fun e => hnr (by rw [← e]; exact q)
            rw [show (d == w % 4) = false from beq_eq_false_iff_ne.mpr hd2] at h5
            cases h5
      have hd' : m'.testBit (w % 4) = true ↔ τ 57 (32 * y + 4 * x + w % 4) = 1 := by
        rw [m3' (by omega) (w % 4) (by omega), show 4 * (8 * y + x) + w % 4 = 32 * y + 4 * x + w % 4 by omega]
      have e35 : ∀ w0 : Int32, f_Od_nearnessOf_J35 N 11 τ (nI w) (nI (w / 32)) (nI (w / 4 % 8)) w0 = some (w0 + (if τ 57 (32 * y + 4 * x + w % 4) = 1 then 2 else 0), τ) := by
        intro w0
        unfold f_Od_nearnessOf_J35
        rw [between_y (by omega) (by omega) (show y < 8 by omega) (show x < 8 by omega) q2 q1, obd_s, doorOf_y hw, obd_s, m1', door_y hm' (by omega), obd_s]
        by_cases q : m'.testBit (w % 4) = true
        · rw [if_pos q, if_neg (by decide), if_pos (hd'.mp q)]
        · rw [if_neg q, if_pos rfl, if_neg (fun e => q (hd'.mpr e))]
      rw [areIn_t (by omega) (by omega) hin, obd_s, if_neg (show ¬ (1 : Int32) = 0 by decide), between_y (by omega) (by omega) (show x < 8 by omega) (show y < 8 by omega) q1 q2, obd_s, m1, e35, e35]
      unfold NR
      rw [if_neg (fun e : τ 12 (w / 32) = (-1) ∨ τ 12 (w / 4 % 8) = (-1) => e.elim hin.1 hin.2), q1, q2, nI_clamp (by omega), nI_clamp (by omega)]
      unfold NRx
      by_cases q : m = 0
      · rw [if_pos (show nI m = 0 by rw [q]; rfl), if_pos (hz.mp q)]
      · rw [if_neg (show ¬ nI m = 0 from nI_ne0 (by omega) (by omega)), if_neg (fun e => q (hz.mpr e))]
def cOc (k j : Nat) : Bool := k == 40 || k == 41 || (k == 39 && j == 2)
def cOm (k j : Nat) : Bool := k == 63 || k == 64 || k == 65 || (k == 42 && (j == 0 || j == 38))
theorem gather_y {N n R t : Nat} {τ : Hp} {day : Int32} (hN : 1000 ≤ N) (hT : IvT τ n t) (hn : n ≤ 8) (hP : IvP τ n 1 R) : ∃ τ', f_Od_gather N 39 6 11 τ day = some (0, τ') ∧ Sx cOc τ τ' ∧ τ' 39 2 = nI (cnt (ob (oddP τ day)) t) ∧ ∀ k, k < t → oddP τ day k → τ' 40 (cnt (ob (oddP τ day)) k) = nI k ∧ τ' 41 (cnt (ob (oddP τ day)) k) = NR τ (wk τ k) := by
  obtain ⟨ht, t1, t2, t3⟩ := hT
  have hIR := hP.2.2.2.2.2.1
  have hR := hIR.1
  unfold f_Od_gather
  rw [ilet_s]
  refine lup (fun n' (s : Hp × Int32) => f_Od_gather_L8 N 39 6 11 n' s.1 day s.2) (fun i s => i ≤ t ∧ (Sx cOc τ s.1 ∧ s.1 39 2 = nI (cnt (ob (oddP τ day)) i) ∧ ∀ k, k < i → oddP τ day k → s.1 40 (cnt (ob (oddP τ day)) k) = nI k ∧ s.1 41 (cnt (ob (oddP τ day)) k) = NR τ (wk τ k)) ∧ s.2 = nI i) (fun z => ∃ τ', z = some (0, τ') ∧ Sx cOc τ τ' ∧ τ' 39 2 = nI (cnt (ob (oddP τ day)) t) ∧ ∀ k, k < t → oddP τ day k → τ' 40 (cnt (ob (oddP τ day)) k) = nI k ∧ τ' 41 (cnt (ob (oddP τ day)) k) = NR τ (wk τ k)) t ?_ ?_ N 0 (upR τ 39 (upd (τ 39) 2 0), 0) (Nat.zero_le _) (by omega) ⟨Nat.zero_le _, ⟨Sx.ud rfl, rfl, fun k hk => absurd hk (Nat.not_lt_zero k)⟩, rfl⟩
  · rintro n' ⟨υ, s2⟩ ⟨-, ⟨g1, g2, g3⟩, g4⟩
    dsimp only at g1 g2 g3 g4 ⊢
    subst g4
    refine ⟨υ, ?_, g1, g2, g3⟩
    show f_Od_gather_L8b N 39 6 11 _ υ _ _ = _
    unfold f_Od_gather_L8b
    rw [g1 6 3 rfl, t1, if_pos (nI_le (Nat.le_refl _) (by omega))]
  · rintro n' i ⟨υ, s2⟩ hi ⟨-, ⟨g1, g2, g3⟩, g4⟩
    dsimp only at g1 g2 g3 g4 ⊢
    subst g4
    obtain ⟨w, y, z, x1, x2, x3, x4, e1, e2, e3, e4, e5, e6⟩ := t3 i hi
    have ew : wk τ i = w := by unfold wk; rw [e1, nI_clamp (by have := x1.1; omega)]
    have hci := cn_le (ob (oddP τ day)) i
    have keep : ¬ oddP τ day i → ∃ s' : Hp × Int32, f_Od_gather_L8 N 39 6 11 n' υ day (nI (i + 1)) = f_Od_gather_L8 N 39 6 11 n' s'.1 day s'.2 ∧ i + 1 ≤ t ∧ (Sx cOc τ s'.1 ∧ s'.1 39 2 = nI (cnt (ob (oddP τ day)) (i + 1)) ∧ ∀ k, k < i + 1 → oddP τ day k → s'.1 40 (cnt (ob (oddP τ day)) k) = nI k ∧ s'.1 41 (cnt (ob (oddP τ day)) k) = NR τ (wk τ k)) ∧ s'.2 = nI (i + 1) := fun hno => ⟨(υ, nI (i + 1)), rfl, by omega, ⟨g1, by rw [cn_n hno]; exact g2, fun k hk hp => by
      rcases Nat.lt_or_ge k i with q | q
      · exact g3 k q hp
      · have : k = i := by omega
        subst this; exact absurd hp hno⟩, rfl⟩
    refine Or.inr ?_
    show ∃ s' : Hp × Int32, f_Od_gather_L8b N 39 6 11 _ υ _ _ = _ ∧ _
    unfold f_Od_gather_L8b
    rw [g1 6 3 rfl, t1, if_neg (nI_ge hi (by omega)), ogd_t _ (inb_n (by omega) (by omega)), ilet_s, ogd_t _ (inb_n (by omega) (by omega)), nI_clamp (by omega)]
    show ∃ s' : Hp × Int32, (if υ 8 i = day then obd (f_WP_firstOf N υ (υ 7 i)) _ else _) = _ ∧ _
    rw [g1 8 i rfl, g1 7 i rfl, e1]
    have hPu : IvP υ n 1 R := hP.cg g1 (fun _ => ⟨rfl, rfl, rfl, rfl, rfl, rfl, rfl, rfl, rfl, rfl, rfl, rfl, rfl, rfl⟩)
    by_cases qd : τ 8 i = day
    · rw [if_pos qd, firstOf_y x1.1, obd_s, secondOf_y x1.1, obd_s, doorOf_y x1.1, obd_s]
      have hlet : f_Ly_isLet N 11 υ (nI (w / 32)) (nI (w / 4 % 8)) (nI (w % 4)) = some (@ite _ (LTw τ w) (Classical.propDecidable _) 1 0, υ) := by
        rcases hIR.b (w / 32) (by have := x1.1; omega) with q1 | ⟨x, hx, q1⟩
        · rw [@if_neg _ (Classical.propDecidable _) (fun ⟨x, y, h1, h2, h3, h4⟩ => absurd (q1.symm.trans h3) (nm1_ne' (by omega)))]
          unfold f_Ly_isLet
          rw [areIn_f (by have := x1.1; omega) (by omega) (Or.inl ((g1 12 _ rfl).trans q1)), obd_s, if_pos rfl]
        · rcases hIR.b (w / 4 % 8) (by omega) with q2 | ⟨y, hy, q2⟩
          · rw [@if_neg _ (Classical.propDecidable _) (fun ⟨x, y, h1, h2, h3, h4, h5⟩ => absurd (q2.symm.trans h4) (nm1_ne' (by omega)))]
            unfold f_Ly_isLet
            rw [areIn_f (by have := x1.1; omega) (by omega) (Or.inr ((g1 12 _ rfl).trans q2)), obd_s, if_pos rfl]
          · rw [isLet_y hPu (by have := x1.1; omega) (by omega) (by omega) (show x < 8 by omega) (show y < 8 by omega) ((g1 12 _ rfl).trans q1) ((g1 12 _ rfl).trans q2), g1 57 _ rfl]
            have hiff : LTw τ w ↔ (x = y ∨ τ 57 (32 * x + 4 * y + w % 4) = 1) := by
              constructor
              · rintro ⟨x', y', h1, h2, h3, h4, h5⟩
                have a1 := (nI_eq (by omega) (by omega)).mp (q1.symm.trans h3)
                have a2 := (nI_eq (by omega) (by omega)).mp (q2.symm.trans h4)
                subst a1; subst a2; exact h5
              · exact fun h => ⟨x, y, by omega, by omega, q1, q2, h⟩
            by_cases q : x = y ∨ τ 57 (32 * x + 4 * y + w % 4) = 1
            · rw [if_pos q, @if_pos _ (Classical.propDecidable _) (hiff.mpr q)]
            · rw [if_neg q, @if_neg _ (Classical.propDecidable _) (fun e => q (hiff.mp e))]
      rw [hlet, obd_s]
      by_cases ql : LTw τ w
      · rw [@if_pos _ (Classical.propDecidable _) ql, if_neg (show ¬ (1 : Int32) = 0 by decide), ilet_s, nI_1]
        exact keep (fun e => e.2 (by rw [ew]; exact ql))
      · have hodd : oddP τ day i := ⟨qd, by rw [ew]; exact ql⟩
        have c300 : cnt (ob (oddP τ day)) i < 300 := by omega
        rw [@if_neg _ (Classical.propDecidable _) ql, if_pos rfl, g2, ogd_t _ (inb_n c300 (by omega)), ilet_s, nI_clamp (by omega)]
        have hPv : IvP (upR υ 40 (upd (υ 40) (cnt (ob (oddP τ day)) i) (nI i))) n 1 R := hP.cg (c := cOc) (g1.tr (Sx.ud rfl)) (fun _ => ⟨rfl, rfl, rfl, rfl, rfl, rfl, rfl, rfl, rfl, rfl, rfl, rfl, rfl, rfl⟩)
        have hsv : Sx cOc τ (upR υ 40 (upd (υ 40) (cnt (ob (oddP τ day)) i) (nI i))) := g1.tr (Sx.ud rfl)
        have w12 := hsv.row 12 (fun _ => rfl)
        have w57 := hsv.row 57 (fun _ => rfl)
        have hnear : f_Od_nearnessOf N 11 (upR υ 40 (upd (υ 40) (cnt (ob (oddP τ day)) i) (nI i))) (nI w) = some (NR τ w, upR υ 40 (upd (υ 40) (cnt (ob (oddP τ day)) i) (nI i))) := by
          rw [near_y hPv x1.1 (by unfold LTw; rw [w12, w57]; exact ql)]
          unfold NR; rw [w12, w57]
        show ∃ s' : Hp × Int32, obd (f_Od_nearnessOf N 11 (upR υ 40 (upd (υ 40) (cnt (ob (oddP τ day)) i) (nI i))) (nI w)) _ = _ ∧ _
        rw [hnear, obd_s]
        show ∃ s' : Hp × Int32, ogd (inb (υ 39 2) 300) _ = _ ∧ _
        rw [g2, ogd_t _ (inb_n c300 (by omega)), ilet_s, ilet_s, ilet_s, nI_1]
        refine ⟨(upR (upR (upR υ 40 (upd (υ 40) (cnt (ob (oddP τ day)) i) (nI i))) 41 (upd (υ 41) (cnt (ob (oddP τ day)) i) (NR τ w))) 39 (upd (υ 39) 2 (nI (cnt (ob (oddP τ day)) i + 1))), nI (i + 1)), ?_, by omega, ⟨((g1.tr (Sx.ud rfl)).tr (Sx.ud rfl)).tr (Sx.ud rfl), by rw [cn_y hodd]; rfl, fun k hk hp => ?_⟩, rfl⟩
        · show f_Od_gather_L8 N 39 6 11 n' (upR (upR (upR υ 40 (upd (υ 40) (cnt (ob (oddP τ day)) i) (nI i))) 41 (upd (υ 41) (Int32.toNatClampNeg (υ 39 2)) (NR τ w))) 39 (upd (υ 39) 2 (υ 39 2 + 1))) day (nI (i + 1)) = _
          rw [g2, nI_clamp (by omega), nI_1]
        · show upd (υ 40) (cnt (ob (oddP τ day)) i) (nI i) (cnt (ob (oddP τ day)) k) = nI k ∧ upd (υ 41) (cnt (ob (oddP τ day)) i) (NR τ w) (cnt (ob (oddP τ day)) k) = NR τ (wk τ k)
          rcases Nat.lt_or_ge k i with q | q
          · have := cn_lt (P := oddP τ day) hp q
            rw [upd_at, upd_at, if_neg (by omega), if_neg (by omega)]
            exact g3 k q hp
          · have : k = i := by omega
            subst this
            rw [upd_eq, upd_eq, ew]; exact ⟨rfl, rfl⟩
    · rw [if_neg qd, ilet_s, nI_1]
      exact keep (fun e => qd e.1)
