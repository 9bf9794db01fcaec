theorem fa_leI (a b : Int32) : a ≤ b ↔ a.toInt ≤ b.toInt := Int32.le_iff_toInt_le
def cB (k j : Nat) : Bool := cA k j || (k == 3 || k == 4 || k == 48 || k == 49)
theorem xor4 : ∀ m, m < 16 → ∀ d, d < 4 → ((nI m ^^^ (1 <<< (nI d &&& 31))) = nI (m ^^^ 2 ^ d) ∧ (m ^^^ 2 ^ d) < 16 ∧ ∀ e, e < 4 → (m ^^^ 2 ^ d).testBit e = if e = d then !(m.testBit d) else m.testBit e) := by decide +kernel
theorem RB.at {r q : Nat → Int32} (h : RB r q) {p d : Nat} (hp : p < 64) (hd : d < 4) : ∃ m, m < 16 ∧ r p = nI m ∧ q (4 * p + d) = if m.testBit d then 1 else 0 := by
  obtain ⟨m, h1, h2, h3⟩ := h p hp
  exact ⟨m, h1, h2, h3 d hd⟩
theorem RB.flip {r q : Nat → Int32} (h : RB r q) {p d m : Nat} (hp : p < 64) (hd : d < 4) (hm : m < 16) (e : r p = nI m) {x : Int32} (hx : x = if m.testBit d then 0 else 1) : RB (upd r p (nI (m ^^^ 2 ^ d))) (upd q (4 * p + d) x) := by
  intro p' hp'
  obtain ⟨m', a1, a2, a3⟩ := h p' hp'
  by_cases q1 : p' = p
  · subst q1
    have em : m' = m := by
      rw [e] at a2
      exact ((nI_eq (by omega) (by omega)).mp a2).symm
    subst em
    obtain ⟨-, b2, b3⟩ := xor4 m' hm d hd
    refine ⟨m' ^^^ 2 ^ d, b2, by rw [upd_eq], fun d' hd' => ?_⟩
    rw [b3 d' hd', upd_at]
    by_cases q2 : d' = d
    · subst q2
      rw [if_pos rfl, if_pos rfl, hx]
      cases m'.testBit d' <;> rfl
    · rw [if_neg q2, if_neg (by omega)]
      exact a3 d' hd'
  · refine ⟨m', a1, by rw [upd_at, if_neg q1]; exact a2, fun d' hd' => ?_⟩
    rw [upd_at, if_neg (by omega)]
    exact a3 d' hd'
/-- the class's turnDoor, over two rows -/
theorem turn_y {N q0 q1 p d m m2 : Nat} {τ : Hp} {on : Int32} (hp : p < 64) (hd : d < 4) (hm : m < 16) (hm2 : m2 < 16) (e0 : τ q0 p = nI m) (e1 : τ q1 p = nI m2) : f_WP_turnDoor N q0 q1 τ (nI p) (nI d) on = if m2.testBit d = true ∨ (if m.testBit d then (1 : Int32) else 0) = on then some (0, τ) else some (1, upR τ q0 (upd (τ q0) p (nI (m ^^^ 2 ^ d)))) := by
  unfold f_WP_turnDoor
  rw [ogd_t _ (inb_n hp (by omega)), nI_clamp (by omega), e1, door_y hm2 hd, obd_s]
  by_cases h2 : m2.testBit d = true
  · rw [if_pos h2, if_neg (by decide), if_pos (Or.inl h2)]
  · rw [if_neg h2, if_pos rfl, ogd_t _ (inb_n hp (by omega)), e0, door_y hm hd, obd_s]
    by_cases h3 : (if m.testBit d then (1 : Int32) else 0) = on
    · rw [if_pos h3, if_pos (Or.inr h3)]
    · rw [if_neg h3, ogd_t _ (inb_n hp (by omega)), ogd_t _ (inb_n hp (by omega)), ilet_s, if_neg (fun q => q.elim h2 h3), e0, (xor4 m hm d hd).1]
theorem nz_b {x : Int32} (h : x = 0 ∨ x = 1) : nz x = x := by rcases h with rfl | rfl <;> rfl
theorem isB_i (c : Prop) [Decidable c] : isB (if c then 1 else 0) = true := by by_cases h : c <;> simp [h] <;> rfl
theorem b01 {b : Bool} : ((if b = true then (1 : Int32) else 0) = 0 ↔ b = false) ∧ ((if b = true then (1 : Int32) else 0) = 1 ↔ b = true) := by cases b <;> decide
theorem ok_must (N : Nat) : op_must N Inv := by
  intro v1 v2 v3 on hon τ hI
  have hI0 := hI
  obtain ⟨n, t, wi, le, rp, sp, mk, R, hH, hT, hB, hL, hP, hS, hO⟩ := hI
  obtain ⟨hn, h1, h2, h3⟩ := id hH
  obtain ⟨b1, b2, b3⟩ := hB
  have no : (f_WP_must N 0 τ v1 v2 v3 on = some (0, τ)) → (f_Mo_must N 42 τ v1 v2 v3 on = some (0, upR τ 42 (upd (τ 42) 0 0))) → ∃ (r : Int32) (τ1 τ2 : Hp), f_WP_must N 0 τ v1 v2 v3 on = some (r, τ1) ∧ f_Mo_must N 42 τ1 v1 v2 v3 on = some (r, τ2) ∧ Inv τ2 := fun q1 q2 => ⟨_, τ, _, q1, q2, th0 (N := N) hI0⟩
  by_cases hw : isWY n v1 v2 v3
  · obtain ⟨a, b, d, ha, hb, hab, hd, rfl, rfl, rfl⟩ := hw
    obtain ⟨m, hm, e0, f0⟩ := b1.at (p := 8 * a + b) (d := d) (by omega) hd
    obtain ⟨m2, hm2, e1, f1⟩ := b2.at (p := 8 * a + b) (d := d) (by omega) hd
    rw [show 4 * (8 * a + b) + d = 32 * a + 4 * b + d by omega] at f0 f1
    have hC : f_WP_must N 0 τ (nI a) (nI b) (nI d) on = if m2.testBit d = true ∨ (if m.testBit d then (1 : Int32) else 0) = on then some (0, τ) else some (1, upR τ 3 (upd (τ 3) (8 * a + b) (nI (m ^^^ 2 ^ d)))) := by
      unfold f_WP_must
      show obd (f_Nt_isWay N 1 τ _ _ _) _ = _
      rw [way_y hn h1 ha hb hab hd, obd_s, if_neg (by decide), pairOf_y, obd_s]
      show obd (f_WP_turnDoor N 3 4 τ _ _ _) _ = _
      rw [turn_y (by omega) hd hm hm2 e0 e1]
      by_cases q : m2.testBit d = true ∨ (if m.testBit d then (1 : Int32) else 0) = on
      · rw [if_pos q, obd_s, ogd_t _ isB_0]
      · rw [if_neg q, obd_s, ogd_t _ isB_1]
    have hM : ∀ υ : Hp, υ 42 = τ 42 → υ 48 = τ 48 → υ 49 = τ 49 → f_Mo_must N 42 υ (nI a) (nI b) (nI d) on = if m2.testBit d = true ∨ (if m.testBit d then (1 : Int32) else 0) = on then some (0, upR υ 42 (upd (υ 42) 0 0)) else some (1, upR (upR υ 42 (upd (υ 42) 0 0)) 48 (upd (τ 48) (32 * a + 4 * b + d) on)) := by
      intro υ u1 u2 u3
      unfold f_Mo_must
      rw [ilet_s, mway_y (n := n) (τ := upR υ 42 (upd (υ 42) 0 0)) hn (by show υ 42 1 = nI n; rw [u1]; exact h2) ha hb hab hd, obd_s, if_neg (nm1_ne (by omega)), ogd_t _ (inb_n (by omega) (by omega)), nI_clamp (by omega)]
      show (if υ 49 (32 * a + 4 * b + d) = 0 then _ else _) = _
      rw [u3, f1]
      by_cases q2 : m2.testBit d = true
      · rw [if_pos q2, if_neg (by decide), if_pos (Or.inl q2)]
      · rw [if_neg q2, if_pos rfl, ogd_t _ (inb_n (by omega) (by omega))]
        show (if υ 48 (32 * a + 4 * b + d) = on then _ else _) = _
        rw [u2, f0]
        by_cases q3 : (if m.testBit d then (1 : Int32) else 0) = on
        · rw [if_pos q3, if_pos (Or.inr q3)]
        · rw [if_neg q3, ogd_t _ (inb_n (by omega) (by omega)), ilet_s, nz_b hon, if_neg (fun q => q.elim q2 q3)]
          show some (1, upR (upR υ 42 (upd (υ 42) 0 0)) 48 (upd (υ 48) _ on)) = _
          rw [u2]
    by_cases q : m2.testBit d = true ∨ (if m.testBit d then (1 : Int32) else 0) = on
    · refine no ?_ ?_
      · rw [hC, if_pos q]
      · rw [hM τ rfl rfl rfl, if_pos q]
    · refine ⟨1, upR τ 3 (upd (τ 3) (8 * a + b) (nI (m ^^^ 2 ^ d))), upR (upR (upR τ 3 (upd (τ 3) (8 * a + b) (nI (m ^^^ 2 ^ d)))) 42 (upd (τ 42) 0 0)) 48 (upd (τ 48) (32 * a + 4 * b + d) on), ?_, ?_, ?_⟩
      · show f_WP_must N 0 τ _ _ _ _ = _
        rw [hC, if_neg q]
      · show f_Mo_must N 42 _ _ _ _ _ = _
        rw [hM (upR τ 3 (upd (τ 3) (8 * a + b) (nI (m ^^^ 2 ^ d)))) rfl rfl rfl, if_neg q]; rfl
      · have hx : Sx cB τ (upR (upR (upR τ 3 (upd (τ 3) (8 * a + b) (nI (m ^^^ 2 ^ d)))) 42 (upd (τ 42) 0 0)) 48 (upd (τ 48) (32 * a + 4 * b + d) on)) := Sx.tr (Sx.tr (Sx.ud rfl) (Sx.ud rfl)) (Sx.ud rfl)
        have honx : on = if m.testBit d then 0 else 1 := by
          rcases hon with rfl | rfl
          · cases hh : m.testBit d
            · exact absurd (Or.inr (by rw [hh]; rfl)) q
            · rfl
          · cases hh : m.testBit d
            · rfl
            · exact absurd (Or.inr (by rw [hh]; rfl)) q
        refine ⟨n, t, wi, le, rp, sp, mk, R, hH.cg hx (fun _ => ⟨rfl, rfl, rfl, rfl⟩), hT.cg hx (fun _ => ⟨rfl, rfl, rfl, rfl, rfl, rfl, rfl, rfl⟩), ⟨?_, b2, ?_⟩, hL.cg hx ⟨rfl, rfl, rfl, rfl, rfl, rfl, rfl, rfl, rfl, rfl⟩, hP.cg hx (fun _ => ⟨rfl, rfl, rfl, rfl, rfl, rfl, rfl, rfl, rfl, rfl, rfl, rfl, rfl, rfl⟩), hS.cg hx (fun _ => ⟨rfl, rfl, rfl, rfl⟩), hO.cg hx (fun _ => ⟨rfl, rfl, rfl, rfl, rfl, rfl, rfl, rfl, rfl⟩)⟩
        · have := b1.flip (p := 8 * a + b) (by omega) hd hm e0 honx
          rw [show 4 * (8 * a + b) + d = 32 * a + 4 * b + d by omega] at this
          exact this
        · intro w hw
          show (upd (τ 48) (32 * a + 4 * b + d) on w = 1 → WY n w ∧ τ 49 w = 0) ∧ (τ 49 w = 1 → WY n w)
          refine ⟨fun q5 => ?_, (b3 w hw).2⟩
          rw [upd_at] at q5
          by_cases q6 : w = 32 * a + 4 * b + d
          · subst q6
            refine ⟨WY_of hn ha hb hab hd, ?_⟩
            rw [f1, if_neg (fun q7 => q (Or.inl q7))]
          · rw [if_neg q6] at q5; exact (b3 w hw).1 q5
  · refine no ?_ ?_
    · unfold f_WP_must
      show obd (f_Nt_isWay N 1 τ _ _ _) _ = _
      rw [way_n hn h1 hw, obd_s, if_pos rfl]
    · unfold f_Mo_must
      rw [ilet_s, mway_n (n := n) (τ := upR τ 42 (upd (τ 42) 0 0)) hn h2 hw, obd_s, if_pos rfl]
theorem ok_bar (N : Nat) : op_bar N Inv := by
  intro v1 v2 v3 on hon τ hI
  have hI0 := hI
  obtain ⟨n, t, wi, le, rp, sp, mk, R, hH, hT, hB, hL, hP, hS, hO⟩ := hI
  obtain ⟨hn, h1, h2, h3⟩ := id hH
  obtain ⟨b1, b2, b3⟩ := hB
  have no : (f_WP_bar N 0 τ v1 v2 v3 on = some (0, τ)) → (f_Mo_bar N 42 τ v1 v2 v3 on = some (0, upR τ 42 (upd (τ 42) 0 0))) → ∃ (r : Int32) (τ1 τ2 : Hp), f_WP_bar N 0 τ v1 v2 v3 on = some (r, τ1) ∧ f_Mo_bar N 42 τ1 v1 v2 v3 on = some (r, τ2) ∧ Inv τ2 := fun q1 q2 => ⟨_, τ, _, q1, q2, th0 (N := N) hI0⟩
  by_cases hw : isWY n v1 v2 v3
  · obtain ⟨a, b, d, ha, hb, hab, hd, rfl, rfl, rfl⟩ := hw
    obtain ⟨m, hm, e0, f0⟩ := b2.at (p := 8 * a + b) (d := d) (by omega) hd
    obtain ⟨m2, hm2, e1, f1⟩ := b1.at (p := 8 * a + b) (d := d) (by omega) hd
    rw [show 4 * (8 * a + b) + d = 32 * a + 4 * b + d by omega] at f0 f1
    have hC : f_WP_bar N 0 τ (nI a) (nI b) (nI d) on = if m2.testBit d = true ∨ (if m.testBit d then (1 : Int32) else 0) = on then some (0, τ) else some (1, upR τ 4 (upd (τ 4) (8 * a + b) (nI (m ^^^ 2 ^ d)))) := by
      unfold f_WP_bar
      show obd (f_Nt_isWay N 1 τ _ _ _) _ = _
      rw [way_y hn h1 ha hb hab hd, obd_s, if_neg (by decide), pairOf_y, obd_s]
      show obd (f_WP_turnDoor N 4 3 τ _ _ _) _ = _
      rw [turn_y (by omega) hd hm hm2 e0 e1]
      by_cases q : m2.testBit d = true ∨ (if m.testBit d then (1 : Int32) else 0) = on
      · rw [if_pos q, obd_s, ogd_t _ isB_0]
      · rw [if_neg q, obd_s, ogd_t _ isB_1]
    have hM : ∀ υ : Hp, υ 42 = τ 42 → υ 48 = τ 48 → υ 49 = τ 49 → f_Mo_bar N 42 υ (nI a) (nI b) (nI d) on = if m2.testBit d = true ∨ (if m.testBit d then (1 : Int32) else 0) = on then some (0, upR υ 42 (upd (υ 42) 0 0)) else some (1, upR (upR υ 42 (upd (υ 42) 0 0)) 49 (upd (τ 49) (32 * a + 4 * b + d) on)) := by
      intro υ u1 u2 u3
      unfold f_Mo_bar
      rw [ilet_s, mway_y (n := n) (τ := upR υ 42 (upd (υ 42) 0 0)) hn (by show υ 42 1 = nI n; rw [u1]; exact h2) ha hb hab hd, obd_s, if_neg (nm1_ne (by omega)), ogd_t _ (inb_n (by omega) (by omega)), nI_clamp (by omega)]
      show (if υ 48 (32 * a + 4 * b + d) = 0 then _ else _) = _
      rw [u2, f1]
      by_cases q2 : m2.testBit d = true
      · rw [if_pos q2, if_neg (by decide), if_pos (Or.inl q2)]
      · rw [if_neg q2, if_pos rfl, ogd_t _ (inb_n (by omega) (by omega))]
        show (if υ 49 (32 * a + 4 * b + d) = on then _ else _) = _
        rw [u3, f0]
        by_cases q3 : (if m.testBit d then (1 : Int32) else 0) = on
        · rw [if_pos q3, if_pos (Or.inr q3)]
        · rw [if_neg q3, ogd_t _ (inb_n (by omega) (by omega)), ilet_s, nz_b hon, if_neg (fun q => q.elim q2 q3)]
          show some (1, upR (upR υ 42 (upd (υ 42) 0 0)) 49 (upd (υ 49) _ on)) = _
          rw [u3]
    by_cases q : m2.testBit d = true ∨ (if m.testBit d then (1 : Int32) else 0) = on
    · refine no ?_ ?_
      · rw [hC, if_pos q]
      · rw [hM τ rfl rfl rfl, if_pos q]
    · refine ⟨1, upR τ 4 (upd (τ 4) (8 * a + b) (nI (m ^^^ 2 ^ d))), upR (upR (upR τ 4 (upd (τ 4) (8 * a + b) (nI (m ^^^ 2 ^ d)))) 42 (upd (τ 42) 0 0)) 49 (upd (τ 49) (32 * a + 4 * b + d) on), ?_, ?_, ?_⟩
      · show f_WP_bar N 0 τ _ _ _ _ = _
        rw [hC, if_neg q]
      · show f_Mo_bar N 42 _ _ _ _ _ = _
        rw [hM (upR τ 4 (upd (τ 4) (8 * a + b) (nI (m ^^^ 2 ^ d)))) rfl rfl rfl, if_neg q]; rfl
      · have hx : Sx cB τ (upR (upR (upR τ 4 (upd (τ 4) (8 * a + b) (nI (m ^^^ 2 ^ d)))) 42 (upd (τ 42) 0 0)) 49 (upd (τ 49) (32 * a + 4 * b + d) on)) := Sx.tr (Sx.tr (Sx.ud rfl) (Sx.ud rfl)) (Sx.ud rfl)
        have honx : on = if m.testBit d then 0 else 1 := by
          rcases hon with rfl | rfl
          · cases hh : m.testBit d
            · exact absurd (Or.inr (by rw [hh]; rfl)) q
            · rfl
          · cases hh : m.testBit d
            · rfl
            · exact absurd (Or.inr (by rw [hh]; rfl)) q
        refine ⟨n, t, wi, le, rp, sp, mk, R, hH.cg hx (fun _ => ⟨rfl, rfl, rfl, rfl⟩), hT.cg hx (fun _ => ⟨rfl, rfl, rfl, rfl, rfl, rfl, rfl, rfl⟩), ⟨b1, ?_, ?_⟩, hL.cg hx ⟨rfl, rfl, rfl, rfl, rfl, rfl, rfl, rfl, rfl, rfl⟩, hP.cg hx (fun _ => ⟨rfl, rfl, rfl, rfl, rfl, rfl, rfl, rfl, rfl, rfl, rfl, rfl, rfl, rfl⟩), hS.cg hx (fun _ => ⟨rfl, rfl, rfl, rfl⟩), hO.cg hx (fun _ => ⟨rfl, rfl, rfl, rfl, rfl, rfl, rfl, rfl, rfl⟩)⟩
        · have := b2.flip (p := 8 * a + b) (by omega) hd hm e0 honx
          rw [show 4 * (8 * a + b) + d = 32 * a + 4 * b + d by omega] at this
          exact this
        · intro w hw
          show (τ 48 w = 1 → WY n w ∧ upd (τ 49) (32 * a + 4 * b + d) on w = 0) ∧ (upd (τ 49) (32 * a + 4 * b + d) on w = 1 → WY n w)
          rw [upd_at]
          by_cases q6 : w = 32 * a + 4 * b + d
          · subst q6
            rw [if_pos rfl]
            refine ⟨fun q7 => ?_, fun _ => WY_of hn ha hb hab hd⟩
            rw [f1, if_neg (fun q7 => q (Or.inl q7))] at q7
            exact absurd q7 (by decide)
          · rw [if_neg q6]; exact b3 w hw
  · refine no ?_ ?_
    · unfold f_WP_bar
      show obd (f_Nt_isWay N 1 τ _ _ _) _ = _
      rw [way_n hn h1 hw, obd_s, if_pos rfl]
    · unfold f_Mo_bar
      rw [ilet_s, mway_n (n := n) (τ := upR τ 42 (upd (τ 42) 0 0)) hn h2 hw, obd_s, if_pos rfl]
def cL (k j : Nat) : Bool := cA k j || (k == 5 || (k == 42 && (j == 10 || j == 11 || j == 12 || j == 13 || j == 14)))
theorem ok_law (N : Nat) : op_law N Inv := by
  intro v1 v2 v3 hz τ hI
  have hI0 := hI
  obtain ⟨n, t, wi, le, rp, sp, mk, R, hH, hT, hB, hL, hP, hS, hO⟩ := hI
  have hz1 : isB v3 = true := by rcases hz with rfl | rfl <;> rfl
  have no : (f_WP_law N 0 τ v1 v2 v3 = some (0, τ)) → (f_Mo_law N 42 τ v1 v2 v3 = some (0, upR τ 42 (upd (τ 42) 0 0))) → ∃ (r : Int32) (τ1 τ2 : Hp), f_WP_law N 0 τ v1 v2 v3 = some (r, τ1) ∧ f_Mo_law N 42 τ1 v1 v2 v3 = some (r, τ2) ∧ Inv τ2 := fun q1 q2 => ⟨_, τ, _, q1, q2, th0 (N := N) hI0⟩
  by_cases h1 : ∃ a, 1 ≤ a ∧ a ≤ 100 ∧ v1 = nI a
  · obtain ⟨a, a1, a2, rfl⟩ := h1
    by_cases h2 : ∃ a, 1 ≤ a ∧ a ≤ 9999 ∧ v2 = nI a
    · obtain ⟨b, b1, b2, rfl⟩ := h2
      refine ⟨1, upR (upR (upR τ 5 (upd (τ 5) 0 (nI a))) 5 (upd (upd (τ 5) 0 (nI a)) 1 (nI b))) 5 (upd (upd (upd (τ 5) 0 (nI a)) 1 (nI b)) 2 v3), upR (upR (upR (upR (upR (upR (upR τ 5 (upd (τ 5) 0 (nI a))) 5 (upd (upd (τ 5) 0 (nI a)) 1 (nI b))) 5 (upd (upd (upd (τ 5) 0 (nI a)) 1 (nI b)) 2 v3)) 42 (upd (τ 42) 0 0)) 42 (upd (upd (τ 42) 0 0) 10 (nI a))) 42 (upd (upd (upd (τ 42) 0 0) 10 (nI a)) 11 (nI b))) 42 (upd (upd (upd (upd (τ 42) 0 0) 10 (nI a)) 11 (nI b)) 12 v3), ?_, ?_, ?_⟩
      · show f_WP_law N 0 τ _ _ _ = _
        unfold f_WP_law
        rw [show f_WP_isBetween N τ (nI a) 1 100 = some (1, τ) from btw_y (b := 1) (c := 100) a1 a2 (by omega), obd_s, if_neg (by decide), show f_WP_isBetween N τ (nI b) 1 9999 = some (1, τ) from btw_y (b := 1) (c := 9999) b1 b2 (by omega), obd_s, if_neg (by decide), ilet_s, ilet_s, ogd_t _ hz1, ilet_s]
        rfl
      · show f_Mo_law N 42 _ _ _ _ = _
        unfold f_Mo_law
        rw [ilet_s, if_neg (show ¬ nI a < 1 from nI_nlt (b := 1) a1 (by omega)), if_neg (show ¬ (100 : Int32) < nI a from nI_nlt (a := 100) a2 (by omega)), if_neg (show ¬ nI b < 1 from nI_nlt (b := 1) b1 (by omega)), if_pos (show nI b ≤ 9999 from nI_le (b := 9999) b2 (by omega)), ilet_s, ilet_s, ogd_t _ hz1, ilet_s]
        rfl
      · have hx : Sx cL τ (upR (upR (upR (upR (upR (upR (upR τ 5 (upd (τ 5) 0 (nI a))) 5 (upd (upd (τ 5) 0 (nI a)) 1 (nI b))) 5 (upd (upd (upd (τ 5) 0 (nI a)) 1 (nI b)) 2 v3)) 42 (upd (τ 42) 0 0)) 42 (upd (upd (τ 42) 0 0) 10 (nI a))) 42 (upd (upd (upd (τ 42) 0 0) 10 (nI a)) 11 (nI b))) 42 (upd (upd (upd (upd (τ 42) 0 0) 10 (nI a)) 11 (nI b)) 12 v3)) := by
          refine Sx.tr (τ1 := upR (upR (upR (upR (upR (upR τ 5 (upd (τ 5) 0 (nI a))) 5 (upd (upd (τ 5) 0 (nI a)) 1 (nI b))) 5 (upd (upd (upd (τ 5) 0 (nI a)) 1 (nI b)) 2 v3)) 42 (upd (τ 42) 0 0)) 42 (upd (upd (τ 42) 0 0) 10 (nI a))) 42 (upd (upd (upd (τ 42) 0 0) 10 (nI a)) 11 (nI b))) ?_ (Sx.ud (k := 42) (i := 12) rfl)
          refine Sx.tr (τ1 := upR (upR (upR (upR (upR τ 5 (upd (τ 5) 0 (nI a))) 5 (upd (upd (τ 5) 0 (nI a)) 1 (nI b))) 5 (upd (upd (upd (τ 5) 0 (nI a)) 1 (nI b)) 2 v3)) 42 (upd (τ 42) 0 0)) 42 (upd (upd (τ 42) 0 0) 10 (nI a))) ?_ (Sx.ud (k := 42) (i := 11) rfl)
          refine Sx.tr (τ1 := upR (upR (upR (upR τ 5 (upd (τ 5) 0 (nI a))) 5 (upd (upd (τ 5) 0 (nI a)) 1 (nI b))) 5 (upd (upd (upd (τ 5) 0 (nI a)) 1 (nI b)) 2 v3)) 42 (upd (τ 42) 0 0)) ?_ (Sx.ud (k := 42) (i := 10) rfl)
          refine Sx.tr (τ1 := upR (upR (upR τ 5 (upd (τ 5) 0 (nI a))) 5 (upd (upd (τ 5) 0 (nI a)) 1 (nI b))) 5 (upd (upd (upd (τ 5) 0 (nI a)) 1 (nI b)) 2 v3)) ?_ (Sx.ud (k := 42) (i := 0) rfl)
          refine Sx.tr (τ1 := upR (upR τ 5 (upd (τ 5) 0 (nI a))) 5 (upd (upd (τ 5) 0 (nI a)) 1 (nI b))) ?_ (Sx.ud (k := 5) (i := 2) rfl)
          exact Sx.tr (Sx.ud rfl) (Sx.ud (k := 5) (i := 1) rfl)
        obtain ⟨l1, l2, l3, l4, l5, l6, l7, l8, l9, l10, l11, l12, l13, l14, l15, l16⟩ := hL
        exact ⟨n, t, a, b, rp, sp, mk, R, hH.cg hx (fun _ => ⟨rfl, rfl, rfl, rfl⟩), hT.cg hx (fun _ => ⟨rfl, rfl, rfl, rfl, rfl, rfl, rfl, rfl⟩), hB.cg hx (fun _ => ⟨rfl, rfl, rfl, rfl⟩), ⟨a1, a2, b1, b2, l5, l6, rfl, rfl, rfl, rfl, hz, rfl, l13, l14, l15, l16⟩, hP.cg hx (fun _ => ⟨rfl, rfl, rfl, rfl, rfl, rfl, rfl, rfl, rfl, rfl, rfl, rfl, rfl, rfl⟩), hS.cg hx (fun _ => ⟨rfl, rfl, rfl, rfl⟩), hO.cg hx (fun _ => ⟨rfl, rfl, rfl, rfl, rfl, rfl, rfl, rfl, rfl⟩)⟩
    · refine no ?_ ?_
      · unfold f_WP_law
        rw [show f_WP_isBetween N τ (nI a) 1 100 = some (1, τ) from btw_y (b := 1) (c := 100) a1 a2 (by omega), obd_s, if_neg (by decide), show f_WP_isBetween N τ v2 1 9999 = some (0, τ) from btw_n (b := 1) (c := 9999) (by omega) (by omega) h2, obd_s, if_pos rfl]
      · unfold f_Mo_law
        rw [ilet_s, if_neg (show ¬ nI a < 1 from nI_nlt (b := 1) a1 (by omega)), if_neg (show ¬ (100 : Int32) < nI a from nI_nlt (a := 100) a2 (by omega))]
        by_cases q : v2 < 1
        · rw [if_pos q]
        · rw [if_neg q, if_neg]
          rw [fa_ltI, show (1 : Int32).toInt = 1 from rfl] at q
          intro q2
          rw [fa_leI, show (9999 : Int32).toInt = 9999 from rfl] at q2
          exact h2 ⟨v2.toInt.toNat, by omega, by omega, by rw [fa_eqI, nI_toInt (by omega)]; omega⟩
  · refine no ?_ ?_
    · unfold f_WP_law
      rw [show f_WP_isBetween N τ v1 1 100 = some (0, τ) from btw_n (b := 1) (c := 100) (by omega) (by omega) h1, obd_s, if_pos rfl]
    · unfold f_Mo_law
      rw [ilet_s]
      by_cases q : v1 < 1
      · rw [if_pos q]
      · rw [if_neg q, if_pos]
        rw [fa_ltI] at q ⊢
        rw [show (1 : Int32).toInt = 1 from rfl] at q
        rw [show (100 : Int32).toInt = 100 from rfl]
        exact Int.lt_of_not_ge (fun q2 => h1 ⟨v1.toInt.toNat, by omega, by omega, by rw [fa_eqI, nI_toInt (by omega)]; omega⟩)
theorem ok_prices (N : Nat) : op_prices N Inv := by
  intro v1 v2 τ hI
  have hI0 := hI
  obtain ⟨n, t, wi, le, rp, sp, mk, R, hH, hT, hB, hL, hP, hS, hO⟩ := hI
  have no : (f_WP_prices N 0 τ v1 v2 = some (0, τ)) → (f_Mo_prices N 42 τ v1 v2 = some (0, upR τ 42 (upd (τ 42) 0 0))) → ∃ (r : Int32) (τ1 τ2 : Hp), f_WP_prices N 0 τ v1 v2 = some (r, τ1) ∧ f_Mo_prices N 42 τ1 v1 v2 = some (r, τ2) ∧ Inv τ2 := fun q1 q2 => ⟨_, τ, _, q1, q2, th0 (N := N) hI0⟩
  by_cases h1 : ∃ a, 0 ≤ a ∧ a ≤ 99 ∧ v1 = nI a
  · obtain ⟨a, a1, a2, rfl⟩ := h1
    by_cases h2 : ∃ a, 0 ≤ a ∧ a ≤ 99 ∧ v2 = nI a
    · obtain ⟨b, b1, b2, rfl⟩ := h2
      refine ⟨1, upR (upR τ 5 (upd (τ 5) 3 (nI a))) 5 (upd (upd (τ 5) 3 (nI a)) 4 (nI b)), upR (upR (upR (upR (upR τ 5 (upd (τ 5) 3 (nI a))) 5 (upd (upd (τ 5) 3 (nI a)) 4 (nI b))) 42 (upd (τ 42) 0 0)) 42 (upd (upd (τ 42) 0 0) 13 (nI a))) 42 (upd (upd (upd (τ 42) 0 0) 13 (nI a)) 14 (nI b)), ?_, ?_, ?_⟩
      · show f_WP_prices N 0 τ _ _ = _
        unfold f_WP_prices
        rw [show f_WP_isBetween N τ (nI a) 0 99 = some (1, τ) from btw_y (b := 0) (c := 99) a1 a2 (by omega), obd_s, if_neg (by decide), show f_WP_isBetween N τ (nI b) 0 99 = some (1, τ) from btw_y (b := 0) (c := 99) b1 b2 (by omega), obd_s, if_neg (by decide), ilet_s, ilet_s]
        rfl
      · show f_Mo_prices N 42 _ _ _ = _
        unfold f_Mo_prices
        rw [ilet_s, if_neg (nI_pos (by omega)), if_neg (show ¬ (99 : Int32) < nI a from nI_nlt (a := 99) a2 (by omega)), if_neg (nI_pos (by omega)), if_pos (show nI b ≤ 99 from nI_le (b := 99) b2 (by omega)), ilet_s, ilet_s]
        rfl
      · have hx : Sx cL τ (upR (upR (upR (upR (upR τ 5 (upd (τ 5) 3 (nI a))) 5 (upd (upd (τ 5) 3 (nI a)) 4 (nI b))) 42 (upd (τ 42) 0 0)) 42 (upd (upd (τ 42) 0 0) 13 (nI a))) 42 (upd (upd (upd (τ 42) 0 0) 13 (nI a)) 14 (nI b))) := by
          refine Sx.tr (τ1 := upR (upR (upR (upR τ 5 (upd (τ 5) 3 (nI a))) 5 (upd (upd (τ 5) 3 (nI a)) 4 (nI b))) 42 (upd (τ 42) 0 0)) 42 (upd (upd (τ 42) 0 0) 13 (nI a))) ?_ (Sx.ud (k := 42) (i := 14) rfl)
          refine Sx.tr (τ1 := upR (upR (upR τ 5 (upd (τ 5) 3 (nI a))) 5 (upd (upd (τ 5) 3 (nI a)) 4 (nI b))) 42 (upd (τ 42) 0 0)) ?_ (Sx.ud (k := 42) (i := 13) rfl)
          refine Sx.tr (τ1 := upR (upR τ 5 (upd (τ 5) 3 (nI a))) 5 (upd (upd (τ 5) 3 (nI a)) 4 (nI b))) ?_ (Sx.ud (k := 42) (i := 0) rfl)
          exact Sx.tr (Sx.ud rfl) (Sx.ud (k := 5) (i := 4) rfl)
        obtain ⟨l1, l2, l3, l4, l5, l6, l7, l8, l9, l10, l11, l12, l13, l14, l15, l16⟩ := hL
        exact ⟨n, t, wi, le, a, b, mk, R, hH.cg hx (fun _ => ⟨rfl, rfl, rfl, rfl⟩), hT.cg hx (fun _ => ⟨rfl, rfl, rfl, rfl, rfl, rfl, rfl, rfl⟩), hB.cg hx (fun _ => ⟨rfl, rfl, rfl, rfl⟩), ⟨l1, l2, l3, l4, a2, b2, l7, l8, l9, l10, l11, l12, rfl, rfl, rfl, rfl⟩, hP.cg hx (fun _ => ⟨rfl, rfl, rfl, rfl, rfl, rfl, rfl, rfl, rfl, rfl, rfl, rfl, rfl, rfl⟩), hS.cg hx (fun _ => ⟨rfl, rfl, rfl, rfl⟩), hO.cg hx (fun _ => ⟨rfl, rfl, rfl, rfl, rfl, rfl, rfl, rfl, rfl⟩)⟩
    · refine no ?_ ?_
      · unfold f_WP_prices
        rw [show f_WP_isBetween N τ (nI a) 0 99 = some (1, τ) from btw_y (b := 0) (c := 99) a1 a2 (by omega), obd_s, if_neg (by decide), show f_WP_isBetween N τ v2 0 99 = some (0, τ) from btw_n (b := 0) (c := 99) (by omega) (by omega) h2, obd_s, if_pos rfl]
      · unfold f_Mo_prices
        rw [ilet_s, if_neg (nI_pos (by omega)), if_neg (show ¬ (99 : Int32) < nI a from nI_nlt (a := 99) a2 (by omega))]
        by_cases q : v2 < 0
        · rw [if_pos q]
        · rw [if_neg q, if_neg]
          rw [fa_ltI, show (0 : Int32).toInt = 0 from rfl] at q
          intro q2
          rw [fa_leI, show (99 : Int32).toInt = 99 from rfl] at q2
          exact h2 ⟨v2.toInt.toNat, by omega, by omega, by rw [fa_eqI, nI_toInt (by omega)]; omega⟩
  · refine no ?_ ?_
    · unfold f_WP_prices
      rw [show f_WP_isBetween N τ v1 0 99 = some (0, τ) from btw_n (b := 0) (c := 99) (by omega) (by omega) h1, obd_s, if_pos rfl]
    · unfold f_Mo_prices
      rw [ilet_s]
      by_cases q : v1 < 0
      · rw [if_pos q]
      · rw [if_neg q, if_pos]
        rw [fa_ltI] at q ⊢
        rw [show (0 : Int32).toInt = 0 from rfl] at q
        rw [show (99 : Int32).toInt = 99 from rfl]
        exact Int.lt_of_not_ge (fun q2 => h1 ⟨v1.toInt.toNat, by omega, by omega, by rw [fa_eqI, nI_toInt (by omega)]; omega⟩)
