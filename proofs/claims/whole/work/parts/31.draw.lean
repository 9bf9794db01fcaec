theorem upR_eq (τ : Hp) (k : Nat) (r : Nat → Int32) : upR τ k r k = r := by rw [upR_at, if_pos rfl]
theorem fill_y {N q0 L : Nat} {τ : Hp} {v : Int32} (hN : 1000 ≤ N) (hL : lenA q0 = L) (hL2 : L ≤ 300) : ∃ ρ : Nat → Int32, f_Jf_fill N q0 τ v = some (0, upR τ q0 ρ) ∧ ∀ j, j < L → ρ j = v := by
  unfold f_Jf_fill
  rw [ilet_s, hL]
  refine (lup (fun n' (s : (Nat → Int32) × Int32) => f_Jf_fill_L5 N q0 n' (upR τ q0 s.1) v s.2 (nI L)) (fun i s => (∀ j, j < i → s.1 j = v) ∧ s.2 = nI i) (fun z => ∃ ρ : Nat → Int32, z = some (0, upR τ q0 ρ) ∧ ∀ j, j < L → ρ j = v) L ?_ ?_ N 0 (τ q0, 0) (Nat.zero_le _) (by omega) ⟨fun j hj => absurd hj (Nat.not_lt_zero j), rfl⟩ |> fun h => by rw [upR_id] at h; exact h)
  · rintro n' ⟨ρ, s2⟩ ⟨g1, g2⟩
    dsimp only at g1 g2 ⊢
    subst g2
    refine ⟨ρ, ?_, g1⟩
    show f_Jf_fill_L5b N q0 _ _ _ _ _ = _
    unfold f_Jf_fill_L5b
    rw [if_pos (nI_le (Nat.le_refl _) (by omega))]
  · rintro n' i ⟨ρ, s2⟩ hi ⟨g1, g2⟩
    dsimp only at g1 g2 ⊢
    subst g2
    refine Or.inr ⟨(upd ρ i v, nI (i + 1)), ?_, fun j hj => ?_, rfl⟩
    · show f_Jf_fill_L5b N q0 _ _ _ _ _ = _
      unfold f_Jf_fill_L5b
      rw [if_neg (nI_ge hi (by omega)), hL, ogd_t _ (inb_n hi (by omega)), ilet_s, ilet_s, nI_1, nI_clamp (by omega), upR_eq, upR_2]
    · show upd ρ i v j = v
      rw [upd_at]
      by_cases q : j = i
      · rw [if_pos q]
      · rw [if_neg q]; exact g1 j (by omega)
theorem RB.b {r q : Nat → Int32} (h : RB r q) {p : Nat} (hp : p < 64) : (r p).toNatClampNeg < 16 ∧ r p = nI (r p).toNatClampNeg ∧ ∀ d, d < 4 → (((r p).toNatClampNeg).testBit d = true ↔ q (4 * p + d) = 1) := by
  obtain ⟨m, h1, h2, h3⟩ := h p hp
  rw [h2, nI_clamp (by omega)]
  refine ⟨h1, rfl, fun d hd => ?_⟩
  rw [h3 d hd]
  by_cases q : m.testBit d = true
  · rw [if_pos q]; exact ⟨fun _ => rfl, fun _ => q⟩
  · rw [if_neg q]; exact ⟨fun e => absurd e q, fun e => absurd e (by decide)⟩
theorem sN_ext {g : Nat → Nat} {B : Nat} : ∀ k, (∀ q, B ≤ q → q < B + k → g q = 0) → sN g (B + k) = sN g B
  | 0, _ => rfl
  | k + 1, h => by rw [← Nat.add_assoc, sN, sN_ext k (fun q h1 h2 => h q h1 (by omega)), h (B + k) (by omega) (by omega)]; omega
theorem sN_to {g : Nat → Nat} {B B' : Nat} (hB : B ≤ B') (h : ∀ q, B ≤ q → q < B' → g q = 0) : sN g B' = sN g B := by
  have := sN_ext (g := g) (B := B) (B' - B) (fun q h1 h2 => h q h1 (by omega))
  rw [show B + (B' - B) = B' by omega] at this; exact this
def nu (r : Nat → Int32) (q : Nat) : Nat := (r q).toNatClampNeg
def BQ (ρ : Nat → Int32) (m β : Nat → Nat) (B : Nat) (z : Int32) : Prop := (z = 0 ∧ ∀ q, q < B → opn ρ m q &&& β q = 0) ∨ (z = 1 ∧ ∃ q, q < B ∧ ¬ opn ρ m q &&& β q = 0)
theorem BQ.to {ρ : Nat → Int32} {m β : Nat → Nat} {B B' : Nat} {z : Int32} (hB : B ≤ B') (h : ∀ q, B ≤ q → q < B' → opn ρ m q = 0) (H : BQ ρ m β B z) : BQ ρ m β B' z := by
  rcases H with ⟨h1, h2⟩ | ⟨h1, q, h2, h3⟩
  · refine Or.inl ⟨h1, fun q hq => ?_⟩
    rcases Nat.lt_or_ge q B with e | e
    · exact h2 q e
    · rw [h q e hq, Nat.zero_and]
  · exact Or.inr ⟨h1, q, by omega, h3⟩
def cD22 (k j : Nat) : Bool := k == 24 || (k == 22 && (j == 2 || j == 3 || j == 4))
def SO22 (τ υ : Hp) (D : Nat → Int32) (B : Nat) : Prop := Sx cD22 τ υ ∧ ∃ m, DO (τ 23) D B m ∧ (∀ p, p < 64 → υ 24 p = nI (m p)) ∧ υ 22 2 = nI (PC m)
theorem SO22.to {τ υ : Hp} {D : Nat → Int32} {B B' : Nat} (hB : B ≤ B') (h : ∀ q, B ≤ q → q < B' → τ 23 (q / 8) = (-1) ∨ τ 23 (q % 8) = (-1)) (H : SO22 τ υ D B) : SO22 τ υ D B' := by
  obtain ⟨h1, m, h2, h3⟩ := H
  refine ⟨h1, m, h2.ext hB (fun q a b x y d _ hx hy e => ?_), h3⟩
  rcases h q a b with f | f
  · exact absurd (f.symm.trans e.1) (nm1_ne' (by omega))
  · exact absurd (f.symm.trans e.2.1) (nm1_ne' (by omega))
theorem openR22 {N : Nat} {τ : Hp} {D : Nat → Int32} (hN : 1000 ≤ N) : ∃ υ, f_Ly_openRooms N 22 τ = some (0, υ) ∧ SO22 τ υ D 0 := by
  unfold f_Ly_openRooms
  rw [ilet_s]
  obtain ⟨ρ, f1, f2⟩ := fill_y (N := N) (q0 := 24) (L := 64) (τ := upR τ 22 (upd (τ 22) 2 0)) (v := 0) hN rfl (by omega)
  rw [show f_Jf_fill N (22 + 2) (upR τ 22 (upd (τ 22) 2 0)) 0 = _ from f1, obd_s]
  have h0 : Sx cD22 τ (upR (upR τ 22 (upd (τ 22) 2 0)) 24 ρ) := (Sx.ud (k := 22) (i := 2) rfl).tr (Sx.u (fun j hj => by cases hj))
  refine lup (fun n' (s : Hp × Int32) => f_Ly_openRooms_L15 N 22 n' s.1 s.2) (fun i s => (Sx cD22 τ s.1 ∧ s.1 22 2 = 0 ∧ ∀ p, p < 64 → s.1 24 p = if p % 9 = 0 ∧ p / 8 < i then 15 else 0) ∧ s.2 = nI i) (fun z => ∃ υ, z = some (0, υ) ∧ SO22 τ υ D 0) 8 ?_ ?_ N 0 (upR (upR τ 22 (upd (τ 22) 2 0)) 24 ρ, 0) (Nat.zero_le _) (by omega) ⟨⟨h0, rfl, fun p hp => ?_⟩, rfl⟩
  · rintro n' ⟨υ, s2⟩ ⟨⟨g1, g2, g3⟩, g4⟩
    dsimp only at g1 g2 g3 g4 ⊢
    subst g4
    refine ⟨υ, ?_, g1, _, DO.zero.1, fun p hp => ?_, ?_⟩
    · show f_Ly_openRooms_L15b N 22 _ υ _ = _
      unfold f_Ly_openRooms_L15b
      rw [if_pos (show (8 : Int32) ≤ nI 8 by decide)]
    · rw [g3 p hp]
      by_cases q : p % 9 = 0
      · rw [if_pos ⟨q, by omega⟩, if_pos q]; rfl
      · rw [if_neg (fun e => q e.1), if_neg q]; rfl
    · rw [g2, (DO.zero (ρ := τ 23) (D := D)).2]; rfl
  · rintro n' i ⟨υ, s2⟩ hi ⟨⟨g1, g2, g3⟩, g4⟩
    dsimp only at g1 g2 g3 g4 ⊢
    subst g4
    refine Or.inr ⟨(upR υ 24 (upd (υ 24) (8 * i + i) 15), nI (i + 1)), ?_, ⟨g1.tr (Sx.ud rfl), g2, fun p hp => ?_⟩, rfl⟩
    · show f_Ly_openRooms_L15b N 22 _ υ _ = _
      unfold f_Ly_openRooms_L15b
      rw [if_neg (show ¬ (8 : Int32) ≤ nI i from nI_ge (b := 8) hi (by omega)), pairOf_y, obd_s, ogd_t _ (inb_n (i := 8 * i + i) (by omega) (by omega)), ilet_s, ilet_s, nI_1, nI_clamp (by omega)]
    · show upd (υ 24) (8 * i + i) 15 p = _
      rw [upd_at]
      by_cases q : p = 8 * i + i
      · rw [if_pos q, if_pos ⟨by omega, by omega⟩]
      · rw [if_neg q, g3 p hp]
        by_cases q2 : p % 9 = 0 ∧ p / 8 < i
        · rw [if_pos q2, if_pos ⟨q2.1, by omega⟩]
        · rw [if_neg q2, if_neg (fun e => by have := (dg p hp).mp e.1; exact q2 ⟨e.1, by omega⟩)]
  · show ρ p = _
    rw [f2 p hp, if_neg (fun e => absurd e.2 (Nat.not_lt_zero _))]
theorem openF22 {N k a x : Nat} {τ υ0 : Hp} {D : Nat → Int32} (hN : 1000 ≤ N) (hk : k ≤ 8) (ha : a < k) (hx : x < 8) (hv : RV (τ 23)) (e : τ 23 a = nI x) (hQ : RB (τ 19) D) (H : SO22 τ υ0 D (8 * a)) : ∃ υ, f_Ly_openDoorsFrom N 22 19 υ0 (nI a) (nI k) = some (0, υ) ∧ SO22 τ υ D (8 * a + k) := by
  unfold f_Ly_openDoorsFrom
  rw [ogd_t _ (inb_n (i := a) (by omega) (by omega)), nI_clamp (by omega), ilet_s]
  show ∃ υ, f_Ly_openDoorsFrom_L11 N 22 19 N υ0 (nI a) (nI k) (υ0 23 a) 0 = some (0, υ) ∧ _
  rw [H.1 23 a rfl, e]
  refine lup (fun n' (s : Hp × Int32) => f_Ly_openDoorsFrom_L11 N 22 19 n' s.1 (nI a) (nI k) (nI x) s.2) (fun i s => SO22 τ s.1 D (8 * a + i) ∧ s.2 = nI i) (fun z => ∃ υ, z = some (0, υ) ∧ SO22 τ υ D (8 * a + k)) k ?_ ?_ N 0 (υ0, 0) (Nat.zero_le _) (by omega) ⟨H, rfl⟩
  · rintro n' ⟨υ, s2⟩ ⟨g1, g2⟩
    dsimp only at g1 g2 ⊢
    subst g2
    refine ⟨υ, ?_, g1⟩
    show f_Ly_openDoorsFrom_L11b N 22 19 _ υ _ _ _ _ = _
    unfold f_Ly_openDoorsFrom_L11b
    rw [if_pos (nI_le (Nat.le_refl _) (by omega))]
  · rintro n' b ⟨υ, s2⟩ hb ⟨g1, g2⟩
    dsimp only at g1 g2 ⊢
    subst g2
    obtain ⟨g1, m, g3, g4, g5⟩ := g1
    have hq : 8 * a + b < 64 := by omega
    have qd : (8 * a + b) / 8 = a := by omega
    have qm : (8 * a + b) % 8 = b := by omega
    obtain ⟨n1, n2, n3⟩ := hQ.b hq
    obtain ⟨ν, eν⟩ : ∃ ν, ν = (τ 19 (8 * a + b)).toNatClampNeg := ⟨_, rfl⟩
    rw [← eν] at n1 n2 n3
    refine Or.inr ?_
    show ∃ s' : Hp × Int32, f_Ly_openDoorsFrom_L11b N 22 19 _ υ _ _ _ _ = _ ∧ _
    unfold f_Ly_openDoorsFrom_L11b
    rw [if_neg (nI_ge hb (by omega)), pairOf_y, obd_s, ogd_t _ (inb_n hq (by omega)), nI_clamp (by omega), ilet_s, g1 19 _ rfl, n2]
    by_cases q0 : ν = 0
    · rw [if_pos (by rw [q0]; rfl), ilet_s, nI_1]
      refine ⟨(υ, nI (b + 1)), rfl, ⟨g1, m, g3.ext (by omega) (fun q a1 a2 x' y' d hd _ _ e' => ?_), g4, g5⟩, rfl⟩
      have : q = 8 * a + b := by omega
      subst this
      have := (n3 d hd).mpr e'.2.2
      rw [q0, Nat.zero_testBit] at this; cases this
    · rw [if_neg (show ¬ nI ν = 0 from fun e => q0 ((nI_eq (b := 0) (by omega) (by omega)).mp e)), ogd_t _ (inb_n (i := b) (by omega) (by omega)), nI_clamp (by omega)]
      show ∃ s' : Hp × Int32, (if υ 23 b = (-1) then _ else _) = _ ∧ _
      rw [g1 23 b rfl]
      rcases hv b (by omega) with q | ⟨y, hy, q⟩
      · rw [if_pos q, ilet_s, nI_1]
        exact ⟨(υ, nI (b + 1)), rfl, SO22.to (B := 8 * a + b) (by omega) (fun q' a1 a2 => by
          have : q' = 8 * a + b := by omega
          subst this; rw [qm]; exact Or.inr q) ⟨g1, m, g3, g4, g5⟩, rfl⟩
      · rw [if_neg (by rw [q]; exact nm1_ne (by omega)), ogd_t _ (inb_n (i := b) (by omega) (by omega))]
        obtain ⟨st1, st2⟩ := DO.step (x := x) (y := y) hx hy (by rw [qd]; exact e) (by rw [qm]; exact q) n1 n3 g3
        have hm16 := (g3 (8 * x + y) (by omega)).1
        rw [q, pairOf_y, obd_s, ogd_t _ (inb_n (i := 8 * x + y) (by omega) (by omega)), nI_clamp (by omega)]
        show ∃ s' : Hp × Int32, obd (f_Jb_bitCount N υ (nI ν &&& (υ 24 (8 * x + y) ^^^ (-1)))) _ = _ ∧ _
        rw [g4 _ (show 8 * x + y < 64 by omega), bc_eq, obd_s, bc16 ν n1 _ hm16, ilet_s, ogd_t _ (inb_n (i := 8 * x + y) (by omega) (by omega)), ogd_t _ (inb_n (i := 8 * x + y) (by omega) (by omega)), ilet_s, ilet_s, nI_1]
        refine ⟨(upR (upR υ 22 (upd (υ 22) 2 (nI (PC (fun p => if p = 8 * x + y then m p ||| ν else m p))))) 24 (upd (υ 24) (8 * x + y) (nI (m (8 * x + y) ||| ν))), nI (b + 1)), ?_, ⟨(g1.tr (Sx.ud rfl)).tr (Sx.ud (k := 24) rfl), _, st1, fun p hp => ?_, rfl⟩, rfl⟩
        · show f_Ly_openDoorsFrom_L11 N 22 19 n' (upR (upR υ 22 (upd (υ 22) 2 (υ 22 2 + nI (pc2 ν (m (8 * x + y)))))) 24 (upd (υ 24) (8 * x + y) (υ 24 (8 * x + y) ||| nI ν))) (nI a) (nI k) (nI x) (nI (b + 1)) = _
          rw [g5, nI_add, ← st2, g4 _ (show 8 * x + y < 64 by omega), or_nI (by omega) (by omega)]
        · show upd (υ 24) (8 * x + y) (nI (m (8 * x + y) ||| ν)) p = nI (if p = 8 * x + y then m p ||| ν else m p)
          rw [upd_at]
          by_cases q2 : p = 8 * x + y
          · rw [if_pos q2, if_pos q2, q2]
          · rw [if_neg q2, if_neg q2]; exact g4 p hp
def SC22 (τ υ : Hp) (m : Nat → Nat) (B : Nat) : Prop := Sx cD22 τ υ ∧ (∀ p, p < 64 → υ 24 p = nI (m p)) ∧ υ 22 2 = nI (PC m) ∧ υ 22 3 = nI (sN (fun q => pc2 (opn (τ 23) m q) (nu (τ 19) q)) B) ∧ BQ (τ 23) m (nu (τ 4)) B (υ 22 4)
theorem SC22.to {τ υ : Hp} {m : Nat → Nat} {D : Nat → Int32} {B B' : Nat} (hQ : RB (τ 19) D) (hB : B ≤ B') (hB2 : B' ≤ 64) (h : ∀ q, B ≤ q → q < B' → opn (τ 23) m q = 0) (H : SC22 τ υ m B) : SC22 τ υ m B' := by
  obtain ⟨h1, h2, h3, h4, h5⟩ := H
  refine ⟨h1, h2, h3, ?_, h5.to hB h⟩
  rw [h4, sN_to hB (fun q a b => by
    show pc2 (opn (τ 23) m q) _ = 0
    rw [h q a b]; exact (pc2_15 _ (hQ.b (show q < 64 by omega)).1).2.2)]
theorem strJ22 {N a b o : Nat} {τ υ : Hp} {m : Nat → Nat} {D Bq : Nat → Int32} {K : Hp → Int32 → Int32 → Int32 → Int32 → OR} {v4 v5 : Int32} (ha : a < 8) (hb : b < 8) (hQ : RB (τ 19) D) (hB : RB (τ 4) Bq) (ho : o < 16) (eo : opn (τ 23) m (8 * a + b) = o) (H : SC22 τ υ m (8 * a + b)) : ∃ υ', f_Ly_countStraysFrom_J56 N 22 19 4 K υ (nI a) v4 v5 (nI b) (nI o) = K υ' (nI a) v4 v5 (nI (b + 1)) ∧ SC22 τ υ' m (8 * a + (b + 1)) := by
  have hq : 8 * a + b < 64 := by omega
  unfold f_Ly_countStraysFrom_J56
  by_cases q0 : o = 0
  · rw [if_pos (by rw [q0]; rfl), ilet_s, nI_1]
    refine ⟨υ, rfl, H.to hQ (by omega) (by omega) (fun q a1 a2 => ?_)⟩
    have : q = 8 * a + b := by omega
    rw [this, eo, q0]
  · obtain ⟨h1, h2, h3, h4, h5⟩ := H
    obtain ⟨n1, n2, n3⟩ := hQ.b hq
    obtain ⟨c1, c2, c3⟩ := hB.b hq
    rw [if_neg (show ¬ nI o = 0 from fun e => q0 ((nI_eq (b := 0) (by omega) (by omega)).mp e)), pairOf_y, obd_s, ogd_t _ (inb_n hq (by omega)), nI_clamp (by omega), h1 19 _ rfl, n2, bc_eq, obd_s, bc16 o ho _ n1, ilet_s]
    have es : sN (fun q => pc2 (opn (τ 23) m q) (nu (τ 19) q)) (8 * a + (b + 1)) = sN (fun q => pc2 (opn (τ 23) m q) (nu (τ 19) q)) (8 * a + b) + pc2 o (τ 19 (8 * a + b)).toNatClampNeg := by
      rw [← Nat.add_assoc, sN]
      show _ + pc2 (opn (τ 23) m (8 * a + b)) _ = _
      rw [eo]; rfl
    have e3 : υ 22 3 + nI (pc2 o (τ 19 (8 * a + b)).toNatClampNeg) = nI (sN (fun q => pc2 (opn (τ 23) m q) (nu (τ 19) q)) (8 * a + (b + 1))) := by rw [h4, nI_add, es]
    have hand := and16 o ho _ c1
    have fin : ∀ z : Int32, BQ (τ 23) m (nu (τ 4)) (8 * a + (b + 1)) z → SC22 τ (upR (upR υ 22 (upd (υ 22) 3 (υ 22 3 + nI (pc2 o (τ 19 (8 * a + b)).toNatClampNeg)))) 22 (upd (upd (υ 22) 3 (υ 22 3 + nI (pc2 o (τ 19 (8 * a + b)).toNatClampNeg))) 4 z)) m (8 * a + (b + 1)) := fun z hz =>
      ⟨(h1.tr (Sx.ud rfl)).tr (Sx.ud (τ := upR υ 22 (upd (υ 22) 3 (υ 22 3 + nI (pc2 o (τ 19 (8 * a + b)).toNatClampNeg)))) (k := 22) (i := 4) rfl), h2, h3, e3, hz⟩
    show ∃ υ', (if υ 22 4 = 0 then ogd (inb (nI (8 * a + b)) 64) (if (nI o &&& υ 4 (8 * a + b)) = 0 then _ else _) else _) = _ ∧ _
    rcases h5 with ⟨z1, z2⟩ | ⟨z1, q, z2, z3⟩
    · rw [if_pos z1, ogd_t _ (inb_n hq (by omega)), h1 4 _ rfl, c2]
      by_cases q1 : o &&& (τ 4 (8 * a + b)).toNatClampNeg = 0
      · rw [if_pos (hand.1.mpr q1), ilet_s, ilet_s, nI_1]
        refine ⟨_, rfl, fin 0 (Or.inl ⟨rfl, fun q hq' => ?_⟩)⟩
        rcases Nat.lt_or_ge q (8 * a + b) with q2 | q2
        · exact z2 q q2
        · have : q = 8 * a + b := by omega
          rw [this, eo]; exact q1
      · rw [if_neg (fun e => q1 (hand.1.mp e)), ilet_s, ilet_s, nI_1]
        exact ⟨_, rfl, fin 1 (Or.inr ⟨rfl, 8 * a + b, by omega, by rw [eo]; exact q1⟩)⟩
    · rw [if_neg (by rw [z1]; decide), ilet_s, ilet_s, nI_1]
      exact ⟨_, rfl, fin 1 (Or.inr ⟨rfl, q, by omega, z3⟩)⟩
theorem strF22 {N k a x : Nat} {τ υ0 : Hp} {m : Nat → Nat} {D Bq : Nat → Int32} (hN : 1000 ≤ N) (hk : k ≤ 8) (ha : a < k) (hx : x < 8) (hv : RV (τ 23)) (e : τ 23 a = nI x) (hQ : RB (τ 19) D) (hB : RB (τ 4) Bq) (hm : DO (τ 23) D 64 m) (H : SC22 τ υ0 m (8 * a)) : ∃ υ, f_Ly_countStraysFrom N 22 19 4 υ0 (nI a) (nI k) = some (0, υ) ∧ SC22 τ υ m (8 * a + k) := by
  unfold f_Ly_countStraysFrom
  rw [ogd_t _ (inb_n (i := a) (by omega) (by omega)), nI_clamp (by omega), ilet_s]
  show ∃ υ, f_Ly_countStraysFrom_L11 N 22 19 4 N υ0 (nI a) (nI k) (υ0 23 a) 0 = some (0, υ) ∧ _
  rw [H.1 23 a rfl, e]
  refine lup (fun n' (s : Hp × Int32) => f_Ly_countStraysFrom_L11 N 22 19 4 n' s.1 (nI a) (nI k) (nI x) s.2) (fun i s => SC22 τ s.1 m (8 * a + i) ∧ s.2 = nI i) (fun z => ∃ υ, z = some (0, υ) ∧ SC22 τ υ m (8 * a + k)) k ?_ ?_ N 0 (υ0, 0) (Nat.zero_le _) (by omega) ⟨H, rfl⟩
  · rintro n' ⟨υ, s2⟩ ⟨g1, g2⟩
    dsimp only at g1 g2 ⊢
    subst g2
    refine ⟨υ, ?_, g1⟩
    show f_Ly_countStraysFrom_L11b N 22 19 4 _ υ _ _ _ _ = _
    unfold f_Ly_countStraysFrom_L11b
    rw [if_pos (nI_le (Nat.le_refl _) (by omega))]
  · rintro n' b ⟨υ, s2⟩ hb ⟨g1, g2⟩
    dsimp only at g1 g2 ⊢
    subst g2
    have qd : (8 * a + b) / 8 = a := by omega
    have qm : (8 * a + b) % 8 = b := by omega
    refine Or.inr ?_
    have fin : ∀ o, o < 16 → opn (τ 23) m (8 * a + b) = o → ∃ s' : Hp × Int32, f_Ly_countStraysFrom_J56 N 22 19 4 (f_Ly_countStraysFrom_L11 N 22 19 4 n') υ (nI a) (nI k) (nI x) (nI b) (nI o) = f_Ly_countStraysFrom_L11 N 22 19 4 n' s'.1 (nI a) (nI k) (nI x) s'.2 ∧ SC22 τ s'.1 m (8 * a + (b + 1)) ∧ s'.2 = nI (b + 1) := fun o ho eo => by
      obtain ⟨υ', j1, j2⟩ := strJ22 (N := N) (K := f_Ly_countStraysFrom_L11 N 22 19 4 n') (v4 := nI k) (v5 := nI x) (show a < 8 by omega) (show b < 8 by omega) hQ hB ho eo g1
      exact ⟨(υ', nI (b + 1)), j1, j2, rfl⟩
    show ∃ s' : Hp × Int32, f_Ly_countStraysFrom_L11b N 22 19 4 _ υ _ _ _ _ = _ ∧ _
    unfold f_Ly_countStraysFrom_L11b f_Ly_countStraysFrom_J35
    rw [if_neg (nI_ge hb (by omega)), ogd_t _ (inb_n (i := b) (by omega) (by omega)), nI_clamp (by omega)]
    show ∃ s' : Hp × Int32, (if υ 23 b = (-1) then _ else _) = _ ∧ _
    rw [g1.1 23 b rfl]
    rcases hv b (by omega) with q | ⟨y, hy, q⟩
    · rw [if_pos q]
      exact fin 0 (by omega) (opn_no (by rw [qm]; exact Or.inr (Or.inl q)))
    · rw [if_neg (by rw [q]; exact nm1_ne (by omega))]
      by_cases qa : b = a
      · rw [if_pos (by rw [qa])]
        exact fin 0 (by omega) (opn_no (by rw [qm, qd]; exact Or.inr (Or.inr qa.symm)))
      · rw [if_neg (fun e => qa ((nI_eq (by omega) (by omega)).mp e)), ogd_t _ (inb_n (i := b) (by omega) (by omega))]
        rw [q, pairOf_y, obd_s, ogd_t _ (inb_n (i := 8 * x + y) (by omega) (by omega)), nI_clamp (by omega)]
        show ∃ s' : Hp × Int32, f_Ly_countStraysFrom_J56 N 22 19 4 _ υ _ _ _ _ (υ 24 (8 * x + y)) = _ ∧ _
        rw [g1.2.1 _ (show 8 * x + y < 64 by omega)]
        exact fin _ (hm (8 * x + y) (by omega)).1 (opn_at hx hy (by rw [qd]; exact e) (by rw [qm]; exact q) (by rw [qd, qm]; exact fun e => qa e.symm))
theorem draw22 {N k : Nat} {τ : Hp} {D Bq : Nat → Int32} (hN : 1000 ≤ N) (hk : k ≤ 8) (hv : RV (τ 23)) (hz : ∀ j, k ≤ j → j < 8 → τ 23 j = (-1)) (hQ : RB (τ 19) D) (hB : RB (τ 4) Bq) : ∃ υ, f_Ly_draw N 22 19 4 τ (nI k) = some (0, υ) ∧ Sx cD22 τ υ ∧ υ 22 2 = nI (nRU (τ 23) D) ∧ υ 22 3 = nI (nST (τ 23) D) ∧ ((υ 22 4 = 0 ∧ ¬ BRD (τ 23) D Bq) ∨ (υ 22 4 = 1 ∧ BRD (τ 23) D Bq)) ∧ ∃ m, DO (τ 23) D 64 m ∧ ∀ p, p < 64 → υ 24 p = nI (m p) := by
  unfold f_Ly_draw
  obtain ⟨υ1, o1, o2⟩ := openR22 (N := N) (τ := τ) (D := D) hN
  rw [o1, obd_s]
  have hout : ∀ q, q < 64 → (8 * k ≤ q ∨ k ≤ q % 8) → τ 23 (q / 8) = (-1) ∨ τ 23 (q % 8) = (-1) := fun q hq h => h.elim (fun h => Or.inl (hz _ (by omega) (by omega))) (fun h => Or.inr (hz _ h (by omega)))
  refine lup (fun n' (s : Hp × Int32) => f_Ly_draw_L7 N 22 19 4 n' s.1 (nI k) s.2) (fun i s => SO22 τ s.1 D (8 * i) ∧ s.2 = nI i) (fun z => ∃ υ, z = some (0, υ) ∧ Sx cD22 τ υ ∧ υ 22 2 = nI (nRU (τ 23) D) ∧ υ 22 3 = nI (nST (τ 23) D) ∧ ((υ 22 4 = 0 ∧ ¬ BRD (τ 23) D Bq) ∨ (υ 22 4 = 1 ∧ BRD (τ 23) D Bq)) ∧ ∃ m, DO (τ 23) D 64 m ∧ ∀ p, p < 64 → υ 24 p = nI (m p)) k ?_ ?_ N 0 (υ1, 0) (Nat.zero_le _) (by omega) ⟨o2, rfl⟩
  · rintro n' ⟨υ, s2⟩ ⟨g1, g2⟩
    dsimp only at g1 g2 ⊢
    subst g2
    obtain ⟨g1, m, g3, g4, g5⟩ := SO22.to (B' := 64) (by omega) (fun q a b => hout q b (Or.inl a)) g1
    have e0 : f_Ly_draw_L7 N 22 19 4 (n' + 1) υ (nI k) (nI k) = f_Ly_draw_L51 N 22 19 4 N (upR (upR υ 22 (upd (υ 22) 3 0)) 22 (upd (upd (υ 22) 3 0) 4 0)) (nI k) 0 := by
      show f_Ly_draw_L7b N 22 19 4 _ υ _ _ = _
      unfold f_Ly_draw_L7b
      rw [if_pos (nI_le (Nat.le_refl _) (by omega))]; rfl
    rw [e0]
    have hS0 : SC22 τ (upR (upR υ 22 (upd (υ 22) 3 0)) 22 (upd (upd (υ 22) 3 0) 4 0)) m 0 := ⟨(g1.tr (Sx.ud rfl)).tr (Sx.ud (τ := upR υ 22 (upd (υ 22) 3 0)) (k := 22) (i := 4) rfl), g4, g5, rfl, Or.inl ⟨rfl, fun q hq => absurd hq (Nat.not_lt_zero q)⟩⟩
    refine lup (fun n' (s : Hp × Int32) => f_Ly_draw_L51 N 22 19 4 n' s.1 (nI k) s.2) (fun i s => SC22 τ s.1 m (8 * i) ∧ s.2 = nI i) (fun z => ∃ υ, z = some (0, υ) ∧ Sx cD22 τ υ ∧ υ 22 2 = nI (nRU (τ 23) D) ∧ υ 22 3 = nI (nST (τ 23) D) ∧ ((υ 22 4 = 0 ∧ ¬ BRD (τ 23) D Bq) ∨ (υ 22 4 = 1 ∧ BRD (τ 23) D Bq)) ∧ ∃ m, DO (τ 23) D 64 m ∧ ∀ p, p < 64 → υ 24 p = nI (m p)) k ?_ ?_ N 0 (_, 0) (Nat.zero_le _) (by omega) ⟨hS0, rfl⟩
    · rintro n' ⟨ω, s2⟩ ⟨l1, l2⟩
      dsimp only at l1 l2 ⊢
      subst l2
      obtain ⟨l1, l3, l4, l5, l6⟩ := SC22.to (B' := 64) hQ (by omega) (by omega) (fun q a b => opn_no ((hout q b (Or.inl a)).imp id Or.inl)) l1
      refine ⟨ω, ?_, l1, ?_, ?_, ?_, m, g3, l3⟩
      · show f_Ly_draw_L51b N 22 19 4 _ ω _ _ = _
        unfold f_Ly_draw_L51b
        rw [if_pos (nI_le (Nat.le_refl _) (by omega))]
      · rw [l4, PC_nRU g3]
      · rw [l5, nST_sN (ν := nu (τ 19)) hv g3 (fun q hq => (hQ.b hq).2.2)]
      · have hb := BRD_ex (β := nu (τ 4)) hv g3 (fun q hq => ⟨(hB.b hq).1, (hB.b hq).2.2⟩)
        rcases l6 with ⟨z1, z2⟩ | ⟨z1, z2⟩
        · exact Or.inl ⟨z1, fun e => by obtain ⟨q, a, b⟩ := hb.mp e; exact b (z2 q a)⟩
        · exact Or.inr ⟨z1, hb.mpr z2⟩
    · rintro n' a ⟨ω, s2⟩ ha ⟨l1, l2⟩
      dsimp only at l1 l2 ⊢
      subst l2
      refine Or.inr ?_
      show ∃ s' : Hp × Int32, f_Ly_draw_L51b N 22 19 4 _ ω _ _ = _ ∧ _
      unfold f_Ly_draw_L51b
      rw [if_neg (nI_ge ha (by omega)), ogd_t _ (inb_n (i := a) (by omega) (by omega)), nI_clamp (by omega)]
      show ∃ s' : Hp × Int32, (if ω 23 a = (-1) then _ else _) = _ ∧ _
      rw [l1.1 23 a rfl]
      rcases hv a (by omega) with q | ⟨x, hx, q⟩
      · rw [if_pos q, ilet_s, nI_1]
        exact ⟨(ω, nI (a + 1)), rfl, SC22.to hQ (by omega) (by omega) (fun q' a1 a2 => opn_no (Or.inl (by rw [show q' / 8 = a by omega]; exact q))) l1, rfl⟩
      · obtain ⟨ω', w1, w2⟩ := strF22 (N := N) hN hk ha hx hv q hQ hB g3 l1
        rw [if_neg (by rw [q]; exact nm1_ne (by omega)), w1, obd_s, ilet_s, nI_1]
        exact ⟨(ω', nI (a + 1)), rfl, SC22.to hQ (by omega) (by omega) (fun q' a1 a2 => opn_no ((hout q' (by omega) (Or.inr (by omega))).imp id Or.inl)) w2, rfl⟩
  · rintro n' a ⟨υ, s2⟩ ha ⟨g1, g2⟩
    dsimp only at g1 g2 ⊢
    subst g2
    refine Or.inr ?_
    show ∃ s' : Hp × Int32, f_Ly_draw_L7b N 22 19 4 _ υ _ _ = _ ∧ _
    unfold f_Ly_draw_L7b
    rw [if_neg (nI_ge ha (by omega)), ogd_t _ (inb_n (i := a) (by omega) (by omega)), nI_clamp (by omega)]
    show ∃ s' : Hp × Int32, (if υ 23 a = (-1) then _ else _) = _ ∧ _
    rw [g1.1 23 a rfl]
    rcases hv a (by omega) with q | ⟨x, hx, q⟩
    · rw [if_pos q, ilet_s, nI_1]
      exact ⟨(υ, nI (a + 1)), rfl, SO22.to (by omega) (fun q' a1 a2 => Or.inl (by rw [show q' / 8 = a by omega]; exact q)) g1, rfl⟩
    · obtain ⟨ω', w1, w2⟩ := openF22 (N := N) hN hk ha hx hv q hQ g1
      rw [if_neg (by rw [q]; exact nm1_ne (by omega)), w1, obd_s, ilet_s, nI_1]
      exact ⟨(ω', nI (a + 1)), rfl, SO22.to (by omega) (fun q' a1 a2 => hout q' (by omega) (Or.inr (by omega))) w2, rfl⟩
def cD11 (k j : Nat) : Bool := k == 13 || (k == 11 && (j == 2 || j == 3 || j == 4))
def SO11 (τ υ : Hp) (D : Nat → Int32) (B : Nat) : Prop := Sx cD11 τ υ ∧ ∃ m, DO (τ 12) D B m ∧ (∀ p, p < 64 → υ 13 p = nI (m p)) ∧ υ 11 2 = nI (PC m)
theorem SO11.to {τ υ : Hp} {D : Nat → Int32} {B B' : Nat} (hB : B ≤ B') (h : ∀ q, B ≤ q → q < B' → τ 12 (q / 8) = (-1) ∨ τ 12 (q % 8) = (-1)) (H : SO11 τ υ D B) : SO11 τ υ D B' := by
  obtain ⟨h1, m, h2, h3⟩ := H
  refine ⟨h1, m, h2.ext hB (fun q a b x y d _ hx hy e => ?_), h3⟩
  rcases h q a b with f | f
  · exact absurd (f.symm.trans e.1) (nm1_ne' (by omega))
  · exact absurd (f.symm.trans e.2.1) (nm1_ne' (by omega))
theorem openR11 {N : Nat} {τ : Hp} {D : Nat → Int32} (hN : 1000 ≤ N) : ∃ υ, f_Ly_openRooms N 11 τ = some (0, υ) ∧ SO11 τ υ D 0 := by
  unfold f_Ly_openRooms
  rw [ilet_s]
  obtain ⟨ρ, f1, f2⟩ := fill_y (N := N) (q0 := 13) (L := 64) (τ := upR τ 11 (upd (τ 11) 2 0)) (v := 0) hN rfl (by omega)
  rw [show f_Jf_fill N (11 + 2) (upR τ 11 (upd (τ 11) 2 0)) 0 = _ from f1, obd_s]
  have h0 : Sx cD11 τ (upR (upR τ 11 (upd (τ 11) 2 0)) 13 ρ) := (Sx.ud (k := 11) (i := 2) rfl).tr (Sx.u (fun j hj => by cases hj))
  refine lup (fun n' (s : Hp × Int32) => f_Ly_openRooms_L15 N 11 n' s.1 s.2) (fun i s => (Sx cD11 τ s.1 ∧ s.1 11 2 = 0 ∧ ∀ p, p < 64 → s.1 13 p = if p % 9 = 0 ∧ p / 8 < i then 15 else 0) ∧ s.2 = nI i) (fun z => ∃ υ, z = some (0, υ) ∧ SO11 τ υ D 0) 8 ?_ ?_ N 0 (upR (upR τ 11 (upd (τ 11) 2 0)) 13 ρ, 0) (Nat.zero_le _) (by omega) ⟨⟨h0, rfl, fun p hp => ?_⟩, rfl⟩
  · rintro n' ⟨υ, s2⟩ ⟨⟨g1, g2, g3⟩, g4⟩
    dsimp only at g1 g2 g3 g4 ⊢
    subst g4
    refine ⟨υ, ?_, g1, _, DO.zero.1, fun p hp => ?_, ?_⟩
    · show f_Ly_openRooms_L15b N 11 _ υ _ = _
      unfold f_Ly_openRooms_L15b
      rw [if_pos (show (8 : Int32) ≤ nI 8 by decide)]
    · rw [g3 p hp]
      by_cases q : p % 9 = 0
      · rw [if_pos ⟨q, by omega⟩, if_pos q]; rfl
      · rw [if_neg (fun e => q e.1), if_neg q]; rfl
    · rw [g2, (DO.zero (ρ := τ 12) (D := D)).2]; rfl
  · rintro n' i ⟨υ, s2⟩ hi ⟨⟨g1, g2, g3⟩, g4⟩
    dsimp only at g1 g2 g3 g4 ⊢
    subst g4
    refine Or.inr ⟨(upR υ 13 (upd (υ 13) (8 * i + i) 15), nI (i + 1)), ?_, ⟨g1.tr (Sx.ud rfl), g2, fun p hp => ?_⟩, rfl⟩
    · show f_Ly_openRooms_L15b N 11 _ υ _ = _
      unfold f_Ly_openRooms_L15b
      rw [if_neg (show ¬ (8 : Int32) ≤ nI i from nI_ge (b := 8) hi (by omega)), pairOf_y, obd_s, ogd_t _ (inb_n (i := 8 * i + i) (by omega) (by omega)), ilet_s, ilet_s, nI_1, nI_clamp (by omega)]
    · show upd (υ 13) (8 * i + i) 15 p = _
      rw [upd_at]
      by_cases q : p = 8 * i + i
      · rw [if_pos q, if_pos ⟨by omega, by omega⟩]
      · rw [if_neg q, g3 p hp]
        by_cases q2 : p % 9 = 0 ∧ p / 8 < i
        · rw [if_pos q2, if_pos ⟨q2.1, by omega⟩]
        · rw [if_neg q2, if_neg (fun e => by have := (dg p hp).mp e.1; exact q2 ⟨e.1, by omega⟩)]
  · show ρ p = _
    rw [f2 p hp, if_neg (fun e => absurd e.2 (Nat.not_lt_zero _))]
theorem openF11 {N k a x : Nat} {τ υ0 : Hp} {D : Nat → Int32} (hN : 1000 ≤ N) (hk : k ≤ 8) (ha : a < k) (hx : x < 8) (hv : RV (τ 12)) (e : τ 12 a = nI x) (hQ : RB (τ 15) D) (H : SO11 τ υ0 D (8 * a)) : ∃ υ, f_Ly_openDoorsFrom N 11 15 υ0 (nI a) (nI k) = some (0, υ) ∧ SO11 τ υ D (8 * a + k) := by
  unfold f_Ly_openDoorsFrom
  rw [ogd_t _ (inb_n (i := a) (by omega) (by omega)), nI_clamp (by omega), ilet_s]
  show ∃ υ, f_Ly_openDoorsFrom_L11 N 11 15 N υ0 (nI a) (nI k) (υ0 12 a) 0 = some (0, υ) ∧ _
  rw [H.1 12 a rfl, e]
  refine lup (fun n' (s : Hp × Int32) => f_Ly_openDoorsFrom_L11 N 11 15 n' s.1 (nI a) (nI k) (nI x) s.2) (fun i s => SO11 τ s.1 D (8 * a + i) ∧ s.2 = nI i) (fun z => ∃ υ, z = some (0, υ) ∧ SO11 τ υ D (8 * a + k)) k ?_ ?_ N 0 (υ0, 0) (Nat.zero_le _) (by omega) ⟨H, rfl⟩
  · rintro n' ⟨υ, s2⟩ ⟨g1, g2⟩
    dsimp only at g1 g2 ⊢
    subst g2
    refine ⟨υ, ?_, g1⟩
    show f_Ly_openDoorsFrom_L11b N 11 15 _ υ _ _ _ _ = _
    unfold f_Ly_openDoorsFrom_L11b
    rw [if_pos (nI_le (Nat.le_refl _) (by omega))]
  · rintro n' b ⟨υ, s2⟩ hb ⟨g1, g2⟩
    dsimp only at g1 g2 ⊢
    subst g2
    obtain ⟨g1, m, g3, g4, g5⟩ := g1
    have hq : 8 * a + b < 64 := by omega
    have qd : (8 * a + b) / 8 = a := by omega
    have qm : (8 * a + b) % 8 = b := by omega
    obtain ⟨n1, n2, n3⟩ := hQ.b hq
    obtain ⟨ν, eν⟩ : ∃ ν, ν = (τ 15 (8 * a + b)).toNatClampNeg := ⟨_, rfl⟩
    rw [← eν] at n1 n2 n3
    refine Or.inr ?_
    show ∃ s' : Hp × Int32, f_Ly_openDoorsFrom_L11b N 11 15 _ υ _ _ _ _ = _ ∧ _
    unfold f_Ly_openDoorsFrom_L11b
    rw [if_neg (nI_ge hb (by omega)), pairOf_y, obd_s, ogd_t _ (inb_n hq (by omega)), nI_clamp (by omega), ilet_s, g1 15 _ rfl, n2]
    by_cases q0 : ν = 0
    · rw [if_pos (by rw [q0]; rfl), ilet_s, nI_1]
      refine ⟨(υ, nI (b + 1)), rfl, ⟨g1, m, g3.ext (by omega) (fun q a1 a2 x' y' d hd _ _ e' => ?_), g4, g5⟩, rfl⟩
      have : q = 8 * a + b := by omega
      subst this
      have := (n3 d hd).mpr e'.2.2
      rw [q0, Nat.zero_testBit] at this; cases this
    · rw [if_neg (show ¬ nI ν = 0 from fun e => q0 ((nI_eq (b := 0) (by omega) (by omega)).mp e)), ogd_t _ (inb_n (i := b) (by omega) (by omega)), nI_clamp (by omega)]
      show ∃ s' : Hp × Int32, (if υ 12 b = (-1) then _ else _) = _ ∧ _
      rw [g1 12 b rfl]
      rcases hv b (by omega) with q | ⟨y, hy, q⟩
      · rw [if_pos q, ilet_s, nI_1]
        exact ⟨(υ, nI (b + 1)), rfl, SO11.to (B := 8 * a + b) (by omega) (fun q' a1 a2 => by
          have : q' = 8 * a + b := by omega
          subst this; rw [qm]; exact Or.inr q) ⟨g1, m, g3, g4, g5⟩, rfl⟩
      · rw [if_neg (by rw [q]; exact nm1_ne (by omega)), ogd_t _ (inb_n (i := b) (by omega) (by omega))]
        obtain ⟨st1, st2⟩ := DO.step (x := x) (y := y) hx hy (by rw [qd]; exact e) (by rw [qm]; exact q) n1 n3 g3
        have hm16 := (g3 (8 * x + y) (by omega)).1
        rw [q, pairOf_y, obd_s, ogd_t _ (inb_n (i := 8 * x + y) (by omega) (by omega)), nI_clamp (by omega)]
        show ∃ s' : Hp × Int32, obd (f_Jb_bitCount N υ (nI ν &&& (υ 13 (8 * x + y) ^^^ (-1)))) _ = _ ∧ _
        rw [g4 _ (show 8 * x + y < 64 by omega), bc_eq, obd_s, bc16 ν n1 _ hm16, ilet_s, ogd_t _ (inb_n (i := 8 * x + y) (by omega) (by omega)), ogd_t _ (inb_n (i := 8 * x + y) (by omega) (by omega)), ilet_s, ilet_s, nI_1]
        refine ⟨(upR (upR υ 11 (upd (υ 11) 2 (nI (PC (fun p => if p = 8 * x + y then m p ||| ν else m p))))) 13 (upd (υ 13) (8 * x + y) (nI (m (8 * x + y) ||| ν))), nI (b + 1)), ?_, ⟨(g1.tr (Sx.ud rfl)).tr (Sx.ud (k := 13) rfl), _, st1, fun p hp => ?_, rfl⟩, rfl⟩
        · show f_Ly_openDoorsFrom_L11 N 11 15 n' (upR (upR υ 11 (upd (υ 11) 2 (υ 11 2 + nI (pc2 ν (m (8 * x + y)))))) 13 (upd (υ 13) (8 * x + y) (υ 13 (8 * x + y) ||| nI ν))) (nI a) (nI k) (nI x) (nI (b + 1)) = _
          rw [g5, nI_add, ← st2, g4 _ (show 8 * x + y < 64 by omega), or_nI (by omega) (by omega)]
        · show upd (υ 13) (8 * x + y) (nI (m (8 * x + y) ||| ν)) p = nI (if p = 8 * x + y then m p ||| ν else m p)
          rw [upd_at]
          by_cases q2 : p = 8 * x + y
          · rw [if_pos q2, if_pos q2, q2]
          · rw [if_neg q2, if_neg q2]; exact g4 p hp
def SC11 (τ υ : Hp) (m : Nat → Nat) (B : Nat) : Prop := Sx cD11 τ υ ∧ (∀ p, p < 64 → υ 13 p = nI (m p)) ∧ υ 11 2 = nI (PC m) ∧ υ 11 3 = nI (sN (fun q => pc2 (opn (τ 12) m q) (nu (τ 15) q)) B) ∧ BQ (τ 12) m (nu (τ 4)) B (υ 11 4)
theorem SC11.to {τ υ : Hp} {m : Nat → Nat} {D : Nat → Int32} {B B' : Nat} (hQ : RB (τ 15) D) (hB : B ≤ B') (hB2 : B' ≤ 64) (h : ∀ q, B ≤ q → q < B' → opn (τ 12) m q = 0) (H : SC11 τ υ m B) : SC11 τ υ m B' := by
  obtain ⟨h1, h2, h3, h4, h5⟩ := H
  refine ⟨h1, h2, h3, ?_, h5.to hB h⟩
  rw [h4, sN_to hB (fun q a b => by
    show pc2 (opn (τ 12) m q) _ = 0
    rw [h q a b]; exact (pc2_15 _ (hQ.b (show q < 64 by omega)).1).2.2)]
theorem strJ11 {N a b o : Nat} {τ υ : Hp} {m : Nat → Nat} {D Bq : Nat → Int32} {K : Hp → Int32 → Int32 → Int32 → Int32 → OR} {v4 v5 : Int32} (ha : a < 8) (hb : b < 8) (hQ : RB (τ 15) D) (hB : RB (τ 4) Bq) (ho : o < 16) (eo : opn (τ 12) m (8 * a + b) = o) (H : SC11 τ υ m (8 * a + b)) : ∃ υ', f_Ly_countStraysFrom_J56 N 11 15 4 K υ (nI a) v4 v5 (nI b) (nI o) = K υ' (nI a) v4 v5 (nI (b + 1)) ∧ SC11 τ υ' m (8 * a + (b + 1)) := by
  have hq : 8 * a + b < 64 := by omega
  unfold f_Ly_countStraysFrom_J56
  by_cases q0 : o = 0
  · rw [if_pos (by rw [q0]; rfl), ilet_s, nI_1]
    refine ⟨υ, rfl, H.to hQ (by omega) (by omega) (fun q a1 a2 => ?_)⟩
    have : q = 8 * a + b := by omega
    rw [this, eo, q0]
  · obtain ⟨h1, h2, h3, h4, h5⟩ := H
    obtain ⟨n1, n2, n3⟩ := hQ.b hq
    obtain ⟨c1, c2, c3⟩ := hB.b hq
    rw [if_neg (show ¬ nI o = 0 from fun e => q0 ((nI_eq (b := 0) (by omega) (by omega)).mp e)), pairOf_y, obd_s, ogd_t _ (inb_n hq (by omega)), nI_clamp (by omega), h1 15 _ rfl, n2, bc_eq, obd_s, bc16 o ho _ n1, ilet_s]
    have es : sN (fun q => pc2 (opn (τ 12) m q) (nu (τ 15) q)) (8 * a + (b + 1)) = sN (fun q => pc2 (opn (τ 12) m q) (nu (τ 15) q)) (8 * a + b) + pc2 o (τ 15 (8 * a + b)).toNatClampNeg := by
      rw [← Nat.add_assoc, sN]
      show _ + pc2 (opn (τ 12) m (8 * a + b)) _ = _
      rw [eo]; rfl
    have e3 : υ 11 3 + nI (pc2 o (τ 15 (8 * a + b)).toNatClampNeg) = nI (sN (fun q => pc2 (opn (τ 12) m q) (nu (τ 15) q)) (8 * a + (b + 1))) := by rw [h4, nI_add, es]
    have hand := and16 o ho _ c1
    have fin : ∀ z : Int32, BQ (τ 12) m (nu (τ 4)) (8 * a + (b + 1)) z → SC11 τ (upR (upR υ 11 (upd (υ 11) 3 (υ 11 3 + nI (pc2 o (τ 15 (8 * a + b)).toNatClampNeg)))) 11 (upd (upd (υ 11) 3 (υ 11 3 + nI (pc2 o (τ 15 (8 * a + b)).toNatClampNeg))) 4 z)) m (8 * a + (b + 1)) := fun z hz =>
      ⟨(h1.tr (Sx.ud rfl)).tr (Sx.ud (τ := upR υ 11 (upd (υ 11) 3 (υ 11 3 + nI (pc2 o (τ 15 (8 * a + b)).toNatClampNeg)))) (k := 11) (i := 4) rfl), h2, h3, e3, hz⟩
    show ∃ υ', (if υ 11 4 = 0 then ogd (inb (nI (8 * a + b)) 64) (if (nI o &&& υ 4 (8 * a + b)) = 0 then _ else _) else _) = _ ∧ _
    rcases h5 with ⟨z1, z2⟩ | ⟨z1, q, z2, z3⟩
    · rw [if_pos z1, ogd_t _ (inb_n hq (by omega)), h1 4 _ rfl, c2]
      by_cases q1 : o &&& (τ 4 (8 * a + b)).toNatClampNeg = 0
      · rw [if_pos (hand.1.mpr q1), ilet_s, ilet_s, nI_1]
        refine ⟨_, rfl, fin 0 (Or.inl ⟨rfl, fun q hq' => ?_⟩)⟩
        rcases Nat.lt_or_ge q (8 * a + b) with q2 | q2
        · exact z2 q q2
        · have : q = 8 * a + b := by omega
          rw [this, eo]; exact q1
      · rw [if_neg (fun e => q1 (hand.1.mp e)), ilet_s, ilet_s, nI_1]
        exact ⟨_, rfl, fin 1 (Or.inr ⟨rfl, 8 * a + b, by omega, by rw [eo]; exact q1⟩)⟩
    · rw [if_neg (by rw [z1]; decide), ilet_s, ilet_s, nI_1]
      exact ⟨_, rfl, fin 1 (Or.inr ⟨rfl, q, by omega, z3⟩)⟩
theorem strF11 {N k a x : Nat} {τ υ0 : Hp} {m : Nat → Nat} {D Bq : Nat → Int32} (hN : 1000 ≤ N) (hk : k ≤ 8) (ha : a < k) (hx : x < 8) (hv : RV (τ 12)) (e : τ 12 a = nI x) (hQ : RB (τ 15) D) (hB : RB (τ 4) Bq) (hm : DO (τ 12) D 64 m) (H : SC11 τ υ0 m (8 * a)) : ∃ υ, f_Ly_countStraysFrom N 11 15 4 υ0 (nI a) (nI k) = some (0, υ) ∧ SC11 τ υ m (8 * a + k) := by
  unfold f_Ly_countStraysFrom
  rw [ogd_t _ (inb_n (i := a) (by omega) (by omega)), nI_clamp (by omega), ilet_s]
  show ∃ υ, f_Ly_countStraysFrom_L11 N 11 15 4 N υ0 (nI a) (nI k) (υ0 12 a) 0 = some (0, υ) ∧ _
  rw [H.1 12 a rfl, e]
  refine lup (fun n' (s : Hp × Int32) => f_Ly_countStraysFrom_L11 N 11 15 4 n' s.1 (nI a) (nI k) (nI x) s.2) (fun i s => SC11 τ s.1 m (8 * a + i) ∧ s.2 = nI i) (fun z => ∃ υ, z = some (0, υ) ∧ SC11 τ υ m (8 * a + k)) k ?_ ?_ N 0 (υ0, 0) (Nat.zero_le _) (by omega) ⟨H, rfl⟩
  · rintro n' ⟨υ, s2⟩ ⟨g1, g2⟩
    dsimp only at g1 g2 ⊢
    subst g2
    refine ⟨υ, ?_, g1⟩
    show f_Ly_countStraysFrom_L11b N 11 15 4 _ υ _ _ _ _ = _
    unfold f_Ly_countStraysFrom_L11b
    rw [if_pos (nI_le (Nat.le_refl _) (by omega))]
  · rintro n' b ⟨υ, s2⟩ hb ⟨g1, g2⟩
    dsimp only at g1 g2 ⊢
    subst g2
    have qd : (8 * a + b) / 8 = a := by omega
    have qm : (8 * a + b) % 8 = b := by omega
    refine Or.inr ?_
    have fin : ∀ o, o < 16 → opn (τ 12) m (8 * a + b) = o → ∃ s' : Hp × Int32, f_Ly_countStraysFrom_J56 N 11 15 4 (f_Ly_countStraysFrom_L11 N 11 15 4 n') υ (nI a) (nI k) (nI x) (nI b) (nI o) = f_Ly_countStraysFrom_L11 N 11 15 4 n' s'.1 (nI a) (nI k) (nI x) s'.2 ∧ SC11 τ s'.1 m (8 * a + (b + 1)) ∧ s'.2 = nI (b + 1) := fun o ho eo => by
      obtain ⟨υ', j1, j2⟩ := strJ11 (N := N) (K := f_Ly_countStraysFrom_L11 N 11 15 4 n') (v4 := nI k) (v5 := nI x) (show a < 8 by omega) (show b < 8 by omega) hQ hB ho eo g1
      exact ⟨(υ', nI (b + 1)), j1, j2, rfl⟩
    show ∃ s' : Hp × Int32, f_Ly_countStraysFrom_L11b N 11 15 4 _ υ _ _ _ _ = _ ∧ _
    unfold f_Ly_countStraysFrom_L11b f_Ly_countStraysFrom_J35
    rw [if_neg (nI_ge hb (by omega)), ogd_t _ (inb_n (i := b) (by omega) (by omega)), nI_clamp (by omega)]
    show ∃ s' : Hp × Int32, (if υ 12 b = (-1) then _ else _) = _ ∧ _
    rw [g1.1 12 b rfl]
    rcases hv b (by omega) with q | ⟨y, hy, q⟩
    · rw [if_pos q]
      exact fin 0 (by omega) (opn_no (by rw [qm]; exact Or.inr (Or.inl q)))
    · rw [if_neg (by rw [q]; exact nm1_ne (by omega))]
      by_cases qa : b = a
      · rw [if_pos (by rw [qa])]
        exact fin 0 (by omega) (opn_no (by rw [qm, qd]; exact Or.inr (Or.inr qa.symm)))
      · rw [if_neg (fun e => qa ((nI_eq (by omega) (by omega)).mp e)), ogd_t _ (inb_n (i := b) (by omega) (by omega))]
        rw [q, pairOf_y, obd_s, ogd_t _ (inb_n (i := 8 * x + y) (by omega) (by omega)), nI_clamp (by omega)]
        show ∃ s' : Hp × Int32, f_Ly_countStraysFrom_J56 N 11 15 4 _ υ _ _ _ _ (υ 13 (8 * x + y)) = _ ∧ _
        rw [g1.2.1 _ (show 8 * x + y < 64 by omega)]
        exact fin _ (hm (8 * x + y) (by omega)).1 (opn_at hx hy (by rw [qd]; exact e) (by rw [qm]; exact q) (by rw [qd, qm]; exact fun e => qa e.symm))
theorem draw11 {N k : Nat} {τ : Hp} {D Bq : Nat → Int32} (hN : 1000 ≤ N) (hk : k ≤ 8) (hv : RV (τ 12)) (hz : ∀ j, k ≤ j → j < 8 → τ 12 j = (-1)) (hQ : RB (τ 15) D) (hB : RB (τ 4) Bq) : ∃ υ, f_Ly_draw N 11 15 4 τ (nI k) = some (0, υ) ∧ Sx cD11 τ υ ∧ υ 11 2 = nI (nRU (τ 12) D) ∧ υ 11 3 = nI (nST (τ 12) D) ∧ ((υ 11 4 = 0 ∧ ¬ BRD (τ 12) D Bq) ∨ (υ 11 4 = 1 ∧ BRD (τ 12) D Bq)) ∧ ∃ m, DO (τ 12) D 64 m ∧ ∀ p, p < 64 → υ 13 p = nI (m p) := by
  unfold f_Ly_draw
  obtain ⟨υ1, o1, o2⟩ := openR11 (N := N) (τ := τ) (D := D) hN
  rw [o1, obd_s]
  have hout : ∀ q, q < 64 → (8 * k ≤ q ∨ k ≤ q % 8) → τ 12 (q / 8) = (-1) ∨ τ 12 (q % 8) = (-1) := fun q hq h => h.elim (fun h => Or.inl (hz _ (by omega) (by omega))) (fun h => Or.inr (hz _ h (by omega)))
  refine lup (fun n' (s : Hp × Int32) => f_Ly_draw_L7 N 11 15 4 n' s.1 (nI k) s.2) (fun i s => SO11 τ s.1 D (8 * i) ∧ s.2 = nI i) (fun z => ∃ υ, z = some (0, υ) ∧ Sx cD11 τ υ ∧ υ 11 2 = nI (nRU (τ 12) D) ∧ υ 11 3 = nI (nST (τ 12) D) ∧ ((υ 11 4 = 0 ∧ ¬ BRD (τ 12) D Bq) ∨ (υ 11 4 = 1 ∧ BRD (τ 12) D Bq)) ∧ ∃ m, DO (τ 12) D 64 m ∧ ∀ p, p < 64 → υ 13 p = nI (m p)) k ?_ ?_ N 0 (υ1, 0) (Nat.zero_le _) (by omega) ⟨o2, rfl⟩
  · rintro n' ⟨υ, s2⟩ ⟨g1, g2⟩
    dsimp only at g1 g2 ⊢
    subst g2
    obtain ⟨g1, m, g3, g4, g5⟩ := SO11.to (B' := 64) (by omega) (fun q a b => hout q b (Or.inl a)) g1
    have e0 : f_Ly_draw_L7 N 11 15 4 (n' + 1) υ (nI k) (nI k) = f_Ly_draw_L51 N 11 15 4 N (upR (upR υ 11 (upd (υ 11) 3 0)) 11 (upd (upd (υ 11) 3 0) 4 0)) (nI k) 0 := by
      show f_Ly_draw_L7b N 11 15 4 _ υ _ _ = _
      unfold f_Ly_draw_L7b
      rw [if_pos (nI_le (Nat.le_refl _) (by omega))]; rfl
    rw [e0]
    have hS0 : SC11 τ (upR (upR υ 11 (upd (υ 11) 3 0)) 11 (upd (upd (υ 11) 3 0) 4 0)) m 0 := ⟨(g1.tr (Sx.ud rfl)).tr (Sx.ud (τ := upR υ 11 (upd (υ 11) 3 0)) (k := 11) (i := 4) rfl), g4, g5, rfl, Or.inl ⟨rfl, fun q hq => absurd hq (Nat.not_lt_zero q)⟩⟩
    refine lup (fun n' (s : Hp × Int32) => f_Ly_draw_L51 N 11 15 4 n' s.1 (nI k) s.2) (fun i s => SC11 τ s.1 m (8 * i) ∧ s.2 = nI i) (fun z => ∃ υ, z = some (0, υ) ∧ Sx cD11 τ υ ∧ υ 11 2 = nI (nRU (τ 12) D) ∧ υ 11 3 = nI (nST (τ 12) D) ∧ ((υ 11 4 = 0 ∧ ¬ BRD (τ 12) D Bq) ∨ (υ 11 4 = 1 ∧ BRD (τ 12) D Bq)) ∧ ∃ m, DO (τ 12) D 64 m ∧ ∀ p, p < 64 → υ 13 p = nI (m p)) k ?_ ?_ N 0 (_, 0) (Nat.zero_le _) (by omega) ⟨hS0, rfl⟩
    · rintro n' ⟨ω, s2⟩ ⟨l1, l2⟩
      dsimp only at l1 l2 ⊢
      subst l2
      obtain ⟨l1, l3, l4, l5, l6⟩ := SC11.to (B' := 64) hQ (by omega) (by omega) (fun q a b => opn_no ((hout q b (Or.inl a)).imp id Or.inl)) l1
      refine ⟨ω, ?_, l1, ?_, ?_, ?_, m, g3, l3⟩
      · show f_Ly_draw_L51b N 11 15 4 _ ω _ _ = _
        unfold f_Ly_draw_L51b
        rw [if_pos (nI_le (Nat.le_refl _) (by omega))]
      · rw [l4, PC_nRU g3]
      · rw [l5, nST_sN (ν := nu (τ 15)) hv g3 (fun q hq => (hQ.b hq).2.2)]
      · have hb := BRD_ex (β := nu (τ 4)) hv g3 (fun q hq => ⟨(hB.b hq).1, (hB.b hq).2.2⟩)
        rcases l6 with ⟨z1, z2⟩ | ⟨z1, z2⟩
        · exact Or.inl ⟨z1, fun e => by obtain ⟨q, a, b⟩ := hb.mp e; exact b (z2 q a)⟩
        · exact Or.inr ⟨z1, hb.mpr z2⟩
    · rintro n' a ⟨ω, s2⟩ ha ⟨l1, l2⟩
      dsimp only at l1 l2 ⊢
      subst l2
      refine Or.inr ?_
      show ∃ s' : Hp × Int32, f_Ly_draw_L51b N 11 15 4 _ ω _ _ = _ ∧ _
      unfold f_Ly_draw_L51b
      rw [if_neg (nI_ge ha (by omega)), ogd_t _ (inb_n (i := a) (by omega) (by omega)), nI_clamp (by omega)]
      show ∃ s' : Hp × Int32, (if ω 12 a = (-1) then _ else _) = _ ∧ _
      rw [l1.1 12 a rfl]
      rcases hv a (by omega) with q | ⟨x, hx, q⟩
      · rw [if_pos q, ilet_s, nI_1]
        exact ⟨(ω, nI (a + 1)), rfl, SC11.to hQ (by omega) (by omega) (fun q' a1 a2 => opn_no (Or.inl (by rw [show q' / 8 = a by omega]; exact q))) l1, rfl⟩
      · obtain ⟨ω', w1, w2⟩ := strF11 (N := N) hN hk ha hx hv q hQ hB g3 l1
        rw [if_neg (by rw [q]; exact nm1_ne (by omega)), w1, obd_s, ilet_s, nI_1]
        exact ⟨(ω', nI (a + 1)), rfl, SC11.to hQ (by omega) (by omega) (fun q' a1 a2 => opn_no ((hout q' (by omega) (Or.inr (by omega))).imp id Or.inl)) w2, rfl⟩
  · rintro n' a ⟨υ, s2⟩ ha ⟨g1, g2⟩
    dsimp only at g1 g2 ⊢
    subst g2
    refine Or.inr ?_
    show ∃ s' : Hp × Int32, f_Ly_draw_L7b N 11 15 4 _ υ _ _ = _ ∧ _
    unfold f_Ly_draw_L7b
    rw [if_neg (nI_ge ha (by omega)), ogd_t _ (inb_n (i := a) (by omega) (by omega)), nI_clamp (by omega)]
    show ∃ s' : Hp × Int32, (if υ 12 a = (-1) then _ else _) = _ ∧ _
    rw [g1.1 12 a rfl]
    rcases hv a (by omega) with q | ⟨x, hx, q⟩
    · rw [if_pos q, ilet_s, nI_1]
      exact ⟨(υ, nI (a + 1)), rfl, SO11.to (by omega) (fun q' a1 a2 => Or.inl (by rw [show q' / 8 = a by omega]; exact q)) g1, rfl⟩
    · obtain ⟨ω', w1, w2⟩ := openF11 (N := N) hN hk ha hx hv q hQ g1
      rw [if_neg (by rw [q]; exact nm1_ne (by omega)), w1, obd_s, ilet_s, nI_1]
      exact ⟨(ω', nI (a + 1)), rfl, SO11.to (by omega) (fun q' a1 a2 => hout q' (by omega) (Or.inr (by omega))) w2, rfl⟩
