theorem btw_c (N : Nat) (τ : Hp) (x : Int32) {c : Nat} (hc : c < 2 ^ 30) : (∃ a, a < c ∧ x = nI a ∧ f_WP_isBetween N τ x 0 (nI c - 1) = some (1, τ)) ∨ ((¬ ∃ a, a < c ∧ x = nI a) ∧ f_WP_isBetween N τ x 0 (nI c - 1) = some (0, τ)) := by
  by_cases h : ∃ a, a < c ∧ x = nI a
  · obtain ⟨a, h1, rfl⟩ := h
    refine Or.inl ⟨a, h1, rfl, ?_⟩
    rw [show nI c - 1 = nI (c - 1) from pk_sub (a := c) (b := 1) (by omega)]
    exact btw_y (b := 0) (by omega) (by omega) (by omega)
  · refine Or.inr ⟨h, ?_⟩
    rcases Nat.eq_zero_or_pos c with h0 | h0
    · subst h0
      unfold f_WP_isBetween
      by_cases h1 : x < 0
      · rw [if_pos h1]
      · rw [if_neg h1, if_pos (by rw [fa_ltI] at h1 ⊢; rw [show (nI 0 - 1 : Int32).toInt = -1 from rfl]; rw [show (0 : Int32).toInt = 0 from rfl] at h1; omega)]
    · rw [show nI c - 1 = nI (c - 1) from pk_sub (a := c) (b := 1) (by omega)]
      exact btw_n (b := 0) (by omega) (by omega) (fun ⟨a, _, h2, h3⟩ => h ⟨a, by omega, h3⟩)
theorem idx_m {x : Int32} {c : Nat} {α : Type} {A B C : α} (hc : c < 2 ^ 30) : (∃ a, a < c ∧ x = nI a ∧ (if x < 0 then A else (if x < nI c then B else C)) = B) ∨ ((¬ ∃ a, a < c ∧ x = nI a) ∧ ((if x < 0 then A else (if x < nI c then B else C)) = A ∨ (if x < 0 then A else (if x < nI c then B else C)) = C)) := by
  by_cases h : ∃ a, a < c ∧ x = nI a
  · obtain ⟨a, h1, rfl⟩ := h
    exact Or.inl ⟨a, h1, rfl, by rw [if_neg (nI_pos (by omega)), if_pos (nI_lt h1 (by omega))]⟩
  · refine Or.inr ⟨h, ?_⟩
    by_cases h1 : x < 0
    · exact Or.inl (by rw [if_pos h1])
    · obtain ⟨j, hj, rfl⟩ := nI_of h1
      exact Or.inr (by rw [if_neg h1, if_neg (nI_nlt (Nat.le_of_not_lt fun q => h ⟨j, q, rfl⟩) hj)])
theorem ok_room (N : Nat) : op_room N Inv := by
  intro v1
  refine ok_read (fun τ hI => ?_)
  obtain ⟨n, t, wi, le, rp, sp, mk, R, hH, hT, hB, hL, hP, hS, hO⟩ := id hI
  obtain ⟨hn, h1, h2, h3⟩ := hH
  by_cases hw : ∃ a, a < n ∧ v1 = nI a
  · obtain ⟨a, ha, rfl⟩ := hw
    refine ⟨τ 12 a, τ, ?_, Sx.rf, fun υ _ hs => ⟨_, ?_, sxT υ⟩⟩
    · unfold f_WP_room
      show obd (f_Nt_isHost N 1 τ _) _ = _
      rw [host_y hn h1 ha, obd_s, if_neg (by decide), ogd_t _ (inb_n (by omega) (by omega)), nI_clamp (by omega)]
    · unfold f_Mo_room
      rw [mth, mhost_y (n := n) (τ := upR υ 42 (upd (υ 42) 0 0)) hn ((hs 42 1 rfl).trans h2) ha, obd_s, if_neg (by decide), ogd_t _ (inb_n (by omega) (by omega)), nI_clamp (by omega)]
      show some (υ 44 a, _) = _
      rw [hs 44 a rfl, (hP.2.2.2.2.2.1.2.1 a (by omega)).1]
  · refine ⟨(-1), τ, ?_, Sx.rf, fun υ _ hs => ⟨_, ?_, sxT υ⟩⟩
    · unfold f_WP_room
      show obd (f_Nt_isHost N 1 τ _) _ = _
      rw [host_n hn h1 hw, obd_s, if_pos rfl]
    · unfold f_Mo_room
      rw [mth, mhost_n (n := n) (τ := upR υ 42 (upd (υ 42) 0 0)) hn ((hs 42 1 rfl).trans h2) hw, obd_s, if_pos rfl]
theorem ok_shutting (N : Nat) : op_shutting N Inv := by
  intro v1
  refine ok_read (fun τ hI => ?_)
  obtain ⟨n, t, wi, le, rp, sp, mk, R, hH, hT, hB, hL, hP, ⟨c, c1, c2, c3, c4⟩, hO⟩ := id hI
  rcases btw_c N τ v1 (c := c) (by omega) with ⟨a, ha, rfl, hb⟩ | ⟨hno, hb⟩
  · refine ⟨τ 38 a, τ, ?_, Sx.rf, fun υ _ hs => ⟨_, ?_, sxT υ⟩⟩
    · unfold f_WP_shutting
      show obd (f_WP_isBetween N τ _ 0 (τ 30 7 - 1)) _ = _
      rw [c2, hb, obd_s, if_neg (by decide), ogd_t _ (inb_n (by omega) (by omega)), nI_clamp (by omega)]
    · unfold f_Mo_shutting
      rw [mth]
      show (if nI a < 0 then _ else (if nI a < υ 42 34 then _ else _)) = _
      rw [hs 42 34 rfl, c3, if_neg (nI_pos (by omega)), if_pos (nI_lt ha (by omega)), ogd_t _ (inb_n (by omega) (by omega)), nI_clamp (by omega)]
      show some (υ 62 a, _) = _
      rw [hs 62 a rfl, c4 a ha]
  · refine ⟨(-1), τ, ?_, Sx.rf, fun υ _ hs => ⟨_, ?_, sxT υ⟩⟩
    · unfold f_WP_shutting
      show obd (f_WP_isBetween N τ _ 0 (τ 30 7 - 1)) _ = _
      rw [c2, hb, obd_s, if_pos rfl]
    · unfold f_Mo_shutting
      rw [mth]
      show (if v1 < 0 then _ else (if v1 < υ 42 34 then _ else _)) = _
      rw [hs 42 34 rfl, c3]
      rcases idx_m (x := v1) (c := c) (by omega) with ⟨a, ha, e1, -⟩ | ⟨-, e1 | e1⟩
      · exact absurd ⟨a, ha, e1⟩ hno
      · exact e1
      · exact e1
theorem ok_oddTalk (N : Nat) : op_oddTalk N Inv := by
  intro v1 v2
  refine ok_read (fun τ hI => ?_)
  obtain ⟨n, t, wi, le, rp, sp, mk, R, hH, ⟨ht, t1, t2, t3⟩, hB, hL, hP, hS, ⟨o, o1, o2, o3, o4⟩⟩ := id hI
  rcases btw_c N τ v1 (c := o) (by omega) with ⟨a, ha, rfl, hb⟩ | ⟨hno, hb⟩
  · obtain ⟨k, hk, k1, k2, k3, k4⟩ := o4 a ha
    obtain ⟨x, y, z, x1, x2, x3, x4, e1, e2, e3, e4, e5, e6⟩ := t3 k hk
    obtain ⟨r1, r2, r3, r4, r5⟩ := rule3 x x1.1
    refine ⟨if v2 = 0 then nI (x / 32) else if v2 = 1 then nI (x / 4 % 8) else if v2 = 2 then nI (x % 4) else if v2 = 3 then nI z else if v2 = 4 then τ 41 a else (-1), τ, ?_, Sx.rf, fun υ _ hs => ⟨_, ?_, sxT υ⟩⟩
    · unfold f_WP_oddTalk
      show obd (f_WP_isBetween N τ _ 0 (τ 39 2 - 1)) _ = _
      rw [o2, hb, obd_s, if_neg (by decide), ogd_t _ (inb_n (by omega) (by omega)), ilet_s, nI_clamp (by omega)]
      show (if v2 = 0 then ogd (inb (τ 40 a) 300) (obd (f_WP_firstOf N τ (τ 7 (τ 40 a).toNatClampNeg)) _) else if v2 = 1 then ogd (inb (τ 40 a) 300) (obd (f_WP_secondOf N τ (τ 7 (τ 40 a).toNatClampNeg)) _) else if v2 = 2 then ogd (inb (τ 40 a) 300) (obd (f_WP_doorOf N τ (τ 7 (τ 40 a).toNatClampNeg)) _) else if v2 = 3 then ogd (inb (τ 40 a) 300) (some (τ 9 (τ 40 a).toNatClampNeg, τ)) else if v2 = 4 then ogd (inb (nI a) 300) (some (τ 41 a, τ)) else some ((-1), τ)) = _
      rw [k1, nI_clamp (by omega), e1, e5, ogd_t _ (inb_n (i := k) (by omega) (by omega)), ogd_t _ (inb_n (i := k) (by omega) (by omega)), ogd_t _ (inb_n (i := k) (by omega) (by omega)), ogd_t _ (inb_n (i := k) (by omega) (by omega)), ogd_t _ (inb_n (i := a) (by omega) (by omega)), firstOf_y x1.1, secondOf_y x1.1, doorOf_y x1.1, obd_s, obd_s, obd_s]
      by_cases q0 : v2 = 0
      · rw [if_pos q0, if_pos q0]
      by_cases q1 : v2 = 1
      · rw [if_neg q0, if_neg q0, if_pos q1, if_pos q1]
      by_cases q2 : v2 = 2
      · rw [if_neg q0, if_neg q0, if_neg q1, if_neg q1, if_pos q2, if_pos q2]
      by_cases q3 : v2 = 3
      · rw [if_neg q0, if_neg q0, if_neg q1, if_neg q1, if_neg q2, if_neg q2, if_pos q3, if_pos q3]
      by_cases q4 : v2 = 4
      · rw [if_neg q0, if_neg q0, if_neg q1, if_neg q1, if_neg q2, if_neg q2, if_neg q3, if_neg q3, if_pos q4, if_pos q4]
      · rw [if_neg q0, if_neg q0, if_neg q1, if_neg q1, if_neg q2, if_neg q2, if_neg q3, if_neg q3, if_neg q4, if_neg q4]
    · unfold f_Mo_oddTalk
      rw [mth]
      show (if nI a < 0 then _ else (if nI a < υ 42 38 then _ else _)) = _
      rw [hs 42 38 rfl, o3, if_neg (nI_pos (by omega)), if_pos (nI_lt ha (by omega)), nI_clamp (by omega)]
      show (if v2 = 0 then ogd (inb (nI a) 300) (some (υ 63 a / 32, _)) else if v2 = 1 then ogd (inb (nI a) 300) (some (υ 63 a / 4 - υ 63 a / 4 / 8 * 8, _)) else if v2 = 2 then ogd (inb (nI a) 300) (some (υ 63 a - υ 63 a / 4 * 4, _)) else if v2 = 3 then ogd (inb (nI a) 300) (some (υ 64 a, _)) else if v2 = 4 then ogd (inb (nI a) 300) (some (υ 65 a, _)) else some ((-1), _)) = _
      rw [hs 63 a rfl, hs 64 a rfl, hs 65 a rfl, k2, k3, e1, e5, r4, r2, r3, ← k4, ogd_t _ (inb_n (i := a) (by omega) (by omega)), ogd_t _ (inb_n (i := a) (by omega) (by omega)), ogd_t _ (inb_n (i := a) (by omega) (by omega)), ogd_t _ (inb_n (i := a) (by omega) (by omega)), ogd_t _ (inb_n (i := a) (by omega) (by omega))]
      by_cases q0 : v2 = 0
      · rw [if_pos q0, if_pos q0]
      by_cases q1 : v2 = 1
      · rw [if_neg q0, if_neg q0, if_pos q1, if_pos q1]
      by_cases q2 : v2 = 2
      · rw [if_neg q0, if_neg q0, if_neg q1, if_neg q1, if_pos q2, if_pos q2]
      by_cases q3 : v2 = 3
      · rw [if_neg q0, if_neg q0, if_neg q1, if_neg q1, if_neg q2, if_neg q2, if_pos q3, if_pos q3]
      by_cases q4 : v2 = 4
      · rw [if_neg q0, if_neg q0, if_neg q1, if_neg q1, if_neg q2, if_neg q2, if_neg q3, if_neg q3, if_pos q4, if_pos q4]
      · rw [if_neg q0, if_neg q0, if_neg q1, if_neg q1, if_neg q2, if_neg q2, if_neg q3, if_neg q3, if_neg q4, if_neg q4]
  · refine ⟨(-1), τ, ?_, Sx.rf, fun υ _ hs => ⟨_, ?_, sxT υ⟩⟩
    · unfold f_WP_oddTalk
      show obd (f_WP_isBetween N τ _ 0 (τ 39 2 - 1)) _ = _
      rw [o2, hb, obd_s, if_pos rfl]
    · unfold f_Mo_oddTalk
      rw [mth]
      show (if v1 < 0 then _ else (if v1 < υ 42 38 then _ else _)) = _
      rw [hs 42 38 rfl, o3]
      rcases idx_m (x := v1) (c := o) (by omega) with ⟨a, ha, e1, -⟩ | ⟨-, e1 | e1⟩
      · exact absurd ⟨a, ha, e1⟩ hno
      · exact e1
      · exact e1
/-- rooms of a row: none is 0, room a is a + 1 -/
def rm (r : Nat → Int32) (j : Nat) : Nat := if r j = (-1) then 0 else (r j).toNatClampNeg + 1
def rmx (r : Nat → Int32) : Nat → Nat
  | 0 => 0
  | i + 1 => max (rmx r i) (rm r i)
def RV (r : Nat → Int32) : Prop := ∀ j, j < 8 → r j = (-1) ∨ ∃ a, a < 8 ∧ r j = nI a
theorem imx : ∀ p, p < 9 → ∀ q, q < 9 → imax (nI p - 1) (nI q - 1) = nI (max p q) - 1 ∧ imax (nI p) (nI q - 1 + 1) = nI (max p q) := by decide +kernel
theorem RV.rm {r : Nat → Int32} (h : RV r) {j : Nat} (hj : j < 8) : rm r j < 9 ∧ r j = nI (rm r j) - 1 := by
  show (if r j = (-1) then 0 else (r j).toNatClampNeg + 1) < 9 ∧ r j = nI (if r j = (-1) then 0 else (r j).toNatClampNeg + 1) - 1
  rcases h j hj with e | ⟨a, ha, e⟩
  · rw [if_pos e, e]; exact ⟨by omega, rfl⟩
  · rw [if_neg (by rw [e]; exact nm1_ne (by omega)), e, nI_clamp (by omega), nI_pred]; exact ⟨by omega, rfl⟩
theorem rmx_lt {r : Nat → Int32} (h : RV r) : ∀ i, i ≤ 8 → rmx r i < 9
  | 0, _ => by show 0 < 9; omega
  | i + 1, hi => by
    have h1 := rmx_lt h i (by omega)
    have h2 := (h.rm (j := i) (by omega)).1
    show max _ _ < 9
    omega
theorem nI_mp (x : Nat) : nI x - 1 + 1 = nI x := by
  cases x with
  | zero => rfl
  | succ x => rw [nI_pred, nI_1]
theorem roomCount_y {N t : Nat} {τ : Hp} (hN : 1000 ≤ N) (h : RV (τ (t + 1))) : f_Ly_roomCount N t τ = some (nI (rmx (τ (t + 1)) 8), τ) := by
  unfold f_Ly_roomCount
  refine lup (fun n (s : Int32 × Int32) => f_Ly_roomCount_L4 N t n τ s.1 s.2) (fun i s => s.1 = nI (rmx (τ (t + 1)) i) - 1 ∧ s.2 = nI i) (fun z => z = some (nI (rmx (τ (t + 1)) 8), τ)) 8 ?_ ?_ N 0 ((-1), 0) (Nat.zero_le _) (by omega) ⟨rfl, rfl⟩
  · rintro n ⟨s1, s2⟩ ⟨h1, h2⟩
    dsimp only at h1 h2 ⊢
    subst h1; subst h2
    show f_Ly_roomCount_L4b N t _ τ _ _ = _
    unfold f_Ly_roomCount_L4b
    rw [if_pos (show (8 : Int32) ≤ nI 8 from by decide)]
    rw [nI_mp]
  · rintro n i ⟨s1, s2⟩ hi ⟨h1, h2⟩
    dsimp only at h1 h2 ⊢
    subst h1; subst h2
    refine Or.inr ?_
    show ∃ s' : Int32 × Int32, f_Ly_roomCount_L4b N t _ τ _ _ = _ ∧ _
    unfold f_Ly_roomCount_L4b
    rw [if_neg (show ¬ (8 : Int32) ≤ nI i from nI_ge (b := 8) hi (by omega)), ogd_t _ (inb_n hi (by omega)), ilet_s, ilet_s, nI_clamp (by omega)]
    refine ⟨(nI (rmx (τ (t + 1)) (i + 1)) - 1, nI (i + 1)), ?_, rfl, rfl⟩
    rw [nI_succ, (h.rm hi).2, (imx _ (rmx_lt h i (by omega)) _ (h.rm hi).1).1]
    rfl
theorem roomMany_y {N : Nat} {τ : Hp} (hN : 1000 ≤ N) (h : RV (τ 44)) : f_Mo_roomMany N 42 τ = some (nI (rmx (τ 44) 8), τ) := by
  unfold f_Mo_roomMany
  refine lup (fun n (s : Int32 × Int32) => f_Mo_roomMany_L4 N 42 n τ s.1 s.2) (fun i s => s.1 = nI (rmx (τ 44) i) ∧ s.2 = nI i) (fun z => z = some (nI (rmx (τ 44) 8), τ)) 8 ?_ ?_ N 0 (0, 0) (Nat.zero_le _) (by omega) ⟨rfl, rfl⟩
  · rintro n ⟨s1, s2⟩ ⟨h1, h2⟩
    dsimp only at h1 h2 ⊢
    subst h1; subst h2
    show f_Mo_roomMany_L4b N 42 _ τ _ _ = _
    unfold f_Mo_roomMany_L4b
    rw [if_pos (show (8 : Int32) ≤ nI 8 from by decide)]
  · rintro n i ⟨s1, s2⟩ hi ⟨h1, h2⟩
    dsimp only at h1 h2 ⊢
    subst h1; subst h2
    refine Or.inr ?_
    show ∃ s' : Int32 × Int32, f_Mo_roomMany_L4b N 42 _ τ _ _ = _ ∧ _
    unfold f_Mo_roomMany_L4b
    rw [if_neg (show ¬ (8 : Int32) ≤ nI i from nI_ge (b := 8) hi (by omega)), ogd_t _ (inb_n hi (by omega)), ilet_s, ilet_s, nI_clamp (by omega)]
    refine ⟨(nI (rmx (τ 44) (i + 1)), nI (i + 1)), ?_, rfl, rfl⟩
    show f_Mo_roomMany_L4 N 42 n τ (imax (nI (rmx (τ 44) i)) (τ 44 i + 1)) _ = _
    rw [nI_succ, (h.rm hi).2, (imx _ (rmx_lt h i (by omega)) _ (h.rm hi).1).2]
    rfl
theorem IR.rv {n R : Nat} {r r' : Nat → Int32} (h : IR n R r r') : RV r := fun j hj => by
  rcases (h.2.1 j hj).2 with e | ⟨_, a, ha, e⟩
  · exact Or.inl e
  · exact Or.inr ⟨a, by have := h.1; omega, e⟩
theorem IR.rv' {n R : Nat} {r r' : Nat → Int32} (h : IR n R r r') : RV r' := fun j hj => by
  rw [(h.2.1 j hj).1]; exact h.rv j hj
theorem rmx_cg {r r' : Nat → Int32} : ∀ i, (∀ j, j < i → r' j = r j) → rmx r' i = rmx r i
  | 0, _ => rfl
  | i + 1, h => by rw [rmx, rmx, rmx_cg i (fun j hj => h j (by omega)), rm, rm, h i (by omega)]
theorem rmx_ge (r : Nat → Int32) : ∀ i j, j < i → rm r j ≤ rmx r i
  | i + 1, j, h => by
    rw [rmx]
    rcases Nat.lt_or_ge j i with q | q
    · have := rmx_ge r i j q; omega
    · have : j = i := by omega
      subst this; omega
theorem rmx_le {r : Nat → Int32} {R : Nat} : ∀ i, (∀ j, j < i → rm r j ≤ R) → rmx r i ≤ R
  | 0, _ => Nat.zero_le _
  | i + 1, h => by
    have h1 := rmx_le i (fun j hj => h j (by omega))
    have h2 := h i (by omega)
    rw [rmx]; omega
theorem IR.rmx {n R : Nat} {r r' : Nat → Int32} (hn : n ≤ 8) (h : IR n R r r') : rmx r 8 = R := by
  apply Nat.le_antisymm
  · refine rmx_le 8 (fun j hj => ?_)
    rcases (h.2.1 j hj).2 with e | ⟨_, a, ha, e⟩
    · unfold rm; rw [if_pos e]; omega
    · unfold rm; rw [e, if_neg (nm1_ne (by have := h.1; omega)), nI_clamp (by have := h.1; omega)]; omega
  · rcases Nat.eq_zero_or_pos R with q | q
    · omega
    · obtain ⟨j, hj, e⟩ := h.2.2 (R - 1) (by omega)
      have := rmx_ge r 8 j (by omega)
      unfold rm at this
      rw [e, if_neg (nm1_ne (by have := h.1; omega)), nI_clamp (by have := h.1; omega)] at this
      omega
