def sI (g : Nat → Int32) : Nat → Int32
  | 0 => 0
  | n + 1 => sI g n + g n
theorem sI_cg {g h : Nat → Int32} : ∀ {n : Nat}, (∀ k, k < n → g k = h k) → sI g n = sI h n
  | 0, _ => rfl
  | n + 1, q => by rw [sI, sI, sI_cg (fun k hk => q k (by omega)), q n (by omega)]
theorem sI_add (g : Nat → Int32) (m : Nat) : ∀ k, sI g (m + k) = sI g m + sI (fun b => g (m + b)) k
  | 0 => by rw [sI]; exact (Int32.add_zero _).symm
  | k + 1 => by
    show sI g (m + k) + g (m + k) = _
    rw [sI_add g m k, sI, Int32.add_assoc]
theorem sI_8 (g : Nat → Int32) : ∀ n, sI g (8 * n) = sI (fun a => sI (fun b => g (8 * a + b)) 8) n
  | 0 => rfl
  | n + 1 => by rw [show 8 * (n + 1) = 8 * n + 8 by omega, sI_add, sI_8 g n]; rfl
theorem sI_4 {g : Nat → Int32} {d : Nat} (hd : d < 4) (h : ∀ w, w % 4 ≠ d → g w = 0) : ∀ n, sI g (4 * n) = sI (fun p => g (4 * p + d)) n
  | 0 => rfl
  | n + 1 => by
    rw [show 4 * (n + 1) = 4 * n + 4 by omega, sI_add, sI_4 hd h n, sI]
    congr 1
    show (((0 + g (4 * n + 0)) + g (4 * n + 1)) + g (4 * n + 2)) + g (4 * n + 3) = _
    rcases (show d = 0 ∨ d = 1 ∨ d = 2 ∨ d = 3 by omega) with rfl | rfl | rfl | rfl
    · rw [h (4 * n + 1) (by omega), h (4 * n + 2) (by omega), h (4 * n + 3) (by omega), Int32.zero_add, Int32.add_zero, Int32.add_zero, Int32.add_zero]
    · rw [h (4 * n + 0) (by omega), h (4 * n + 2) (by omega), h (4 * n + 3) (by omega), Int32.zero_add, Int32.zero_add, Int32.add_zero, Int32.add_zero]
    · rw [h (4 * n + 0) (by omega), h (4 * n + 1) (by omega), h (4 * n + 3) (by omega), Int32.zero_add, Int32.zero_add, Int32.zero_add, Int32.add_zero]
    · rw [h (4 * n + 0) (by omega), h (4 * n + 1) (by omega), h (4 * n + 2) (by omega), Int32.zero_add, Int32.zero_add, Int32.zero_add, Int32.zero_add]
theorem sI_256 {g : Nat → Int32} {d : Nat} (hd : d < 4) (h : ∀ w, w % 4 ≠ d → g w = 0) : sI g 256 = sI (fun a => sI (fun b => g (32 * a + 4 * b + d)) 8) 8 := by
  rw [show 256 = 4 * 64 from rfl, sI_4 hd h 64, show 64 = 8 * 8 from rfl, sI_8]
  refine sI_cg (fun a _ => sI_cg (fun b _ => ?_))
  show g (4 * (8 * a + b) + d) = _
  rw [show 4 * (8 * a + b) + d = 32 * a + 4 * b + d by omega]
def By (τ : Hp) (r a b : Nat) : Prop := τ 12 a = nI (r / 32) ∧ τ 12 b = nI (r / 4 % 8)
theorem isBy_y {N r a b : Nat} {τ : Hp} (hr : r < 256) (ha : a < 8) (hb : b < 8) : (By τ r a b → f_Pl_isBy N 10 τ (nI r) (nI a) (nI b) = some (1, τ)) ∧ (¬ By τ r a b → f_Pl_isBy N 10 τ (nI r) (nI a) (nI b) = some (0, τ)) := by
  have e : f_Pl_isBy N 10 τ (nI r) (nI a) (nI b) = if τ 12 a = nI (r / 32) then (if τ 12 b = nI (r / 4 % 8) then some (1, τ) else some (0, τ)) else some (0, τ) := by
    unfold f_Pl_isBy
    rw [ogd_t _ (inb_n ha (by omega)), firstOf_y hr, obd_s, nI_clamp (by omega), ogd_t _ (inb_n hb (by omega)), secondOf_y hr, obd_s, nI_clamp (by omega)]
  rw [e]
  refine ⟨fun h => by rw [if_pos h.1, if_pos h.2], fun h => ?_⟩
  by_cases h1 : τ 12 a = nI (r / 32)
  · rw [if_pos h1, if_neg (fun q => h ⟨h1, q⟩)]
  · rw [if_neg h1]
theorem needBy_y {N r a b : Nat} {τ : Hp} (hr : r < 256) (ha : a < 8) (hb : b < 8) (hB : RB (τ 15) (τ 52)) : (By τ r a b ∧ τ 52 (32 * a + 4 * b + r % 4) = 1 → f_Pl_isNeedBy N 10 τ (nI r) (nI a) (nI b) = some (1, τ)) ∧ (¬ (By τ r a b ∧ τ 52 (32 * a + 4 * b + r % 4) = 1) → f_Pl_isNeedBy N 10 τ (nI r) (nI a) (nI b) = some (0, τ)) := by
  obtain ⟨m, hm, e1, e2⟩ := hB.at (p := 8 * a + b) (d := r % 4) (by omega) (by omega)
  rw [show 4 * (8 * a + b) + r % 4 = 32 * a + 4 * b + r % 4 by omega] at e2
  by_cases h1 : By τ r a b
  · have e : f_Pl_isNeedBy N 10 τ (nI r) (nI a) (nI b) = if m.testBit (r % 4) = true then some (1, τ) else some (0, τ) := by
      unfold f_Pl_isNeedBy
      rw [(isBy_y hr ha hb).1 h1, obd_s, if_neg (by decide), pairOf_y, obd_s, ogd_t _ (inb_n (by omega) (by omega)), doorOf_y hr, obd_s, nI_clamp (by omega)]
      show obd (f_WP_hasDoor N τ (τ 15 (8 * a + b)) _) _ = _
      rw [e1, door_y hm (by omega), obd_s]
      by_cases q : m.testBit (r % 4) = true
      · rw [if_pos q, if_neg (by decide), if_pos q]
      · rw [if_neg q, if_pos rfl, if_neg q]
    rw [e, e2]
    by_cases q : m.testBit (r % 4) = true
    · rw [if_pos q, if_pos q]
      exact ⟨fun _ => rfl, fun h => absurd ⟨h1, rfl⟩ h⟩
    · rw [if_neg q, if_neg q]
      exact ⟨fun h => absurd h.2 (by decide), fun _ => rfl⟩
  · refine ⟨fun h => absurd h.1 h1, fun _ => ?_⟩
    unfold f_Pl_isNeedBy
    rw [(isBy_y hr ha hb).2 h1, obd_s, if_pos rfl]
theorem dec_By (τ : Hp) (r a b : Nat) : Nonempty (Decidable (By τ r a b)) := ⟨inferInstanceAs (Decidable (_ ∧ _))⟩
/-- what the needed ways by a rule give: each x of its number, else 0 -/
def gB (τ : Hp) (r : Nat) (x : Nat → Int32) (a b : Nat) : Int32 := if (τ 12 a = nI (r / 32) ∧ τ 12 b = nI (r / 4 % 8)) ∧ τ 52 (32 * a + 4 * b + r % 4) = 1 then x (32 * a + 4 * b + r % 4) else 0
theorem waysBy_y {N r : Nat} {τ : Hp} (hN : 1000 ≤ N) (hr : r < 256) (hB : RB (τ 15) (τ 52)) : f_Pl_waysBy N 10 τ (nI r) = some (sI (fun a => sI (gB τ r (fun _ => 1) a) 8) 8, τ) := by
  unfold f_Pl_waysBy
  refine lup (fun n (s : Int32 × Int32) => f_Pl_waysBy_L4 N 10 n τ (nI r) s.1 s.2) (fun i s => s.1 = sI (fun a => sI (gB τ r (fun _ => 1) a) 8) i ∧ s.2 = nI i) (fun z => z = some (sI (fun a => sI (gB τ r (fun _ => 1) a) 8) 8, τ)) 8 ?_ ?_ N 0 (0, 0) (Nat.zero_le _) (by omega) ⟨rfl, rfl⟩
  · rintro n ⟨s1, s2⟩ ⟨h1, h2⟩
    dsimp only at h1 h2 ⊢
    subst h1; subst h2
    show f_Pl_waysBy_L4b N 10 _ τ (nI r) _ _ = _
    unfold f_Pl_waysBy_L4b
    rw [if_pos (show (8 : Int32) ≤ nI 8 from by decide)]
  · rintro n a ⟨s1, s2⟩ ha ⟨h1, h2⟩
    dsimp only at h1 h2 ⊢
    subst h1; subst h2
    refine Or.inr ⟨(sI (fun a => sI (gB τ r (fun _ => 1) a) 8) (a + 1), nI (a + 1)), ?_, rfl, rfl⟩
    show f_Pl_waysBy_L4b N 10 _ τ (nI r) _ _ = _
    unfold f_Pl_waysBy_L4b
    rw [if_neg (show ¬ (8 : Int32) ≤ nI a from nI_ge (b := 8) ha (by omega))]
    refine lup (fun n' (s : Int32 × Int32) => f_Pl_waysBy_L13 N 10 (f_Pl_waysBy_L4 N 10 n) n' τ (nI r) s.1 (nI a) s.2) (fun i s => s.1 = sI (fun a => sI (gB τ r (fun _ => 1) a) 8) a + sI (gB τ r (fun _ => 1) a) i ∧ s.2 = nI i) (fun z => z = f_Pl_waysBy_L4 N 10 n τ (nI r) (sI (fun a => sI (gB τ r (fun _ => 1) a) 8) (a + 1)) (nI (a + 1))) 8 ?_ ?_ N 0 (sI (fun a => sI (gB τ r (fun _ => 1) a) 8) a, 0) (Nat.zero_le _) (by omega) ⟨(Int32.add_zero _).symm, rfl⟩
    · rintro n' ⟨s1, s2⟩ ⟨h1, h2⟩
      dsimp only at h1 h2 ⊢
      subst h1; subst h2
      show f_Pl_waysBy_L13b N 10 _ _ τ (nI r) _ _ _ = _
      unfold f_Pl_waysBy_L13b
      rw [if_pos (show (8 : Int32) ≤ nI 8 from by decide), ilet_s, nI_1]
      rfl
    · rintro n' b ⟨s1, s2⟩ hb ⟨h1, h2⟩
      dsimp only at h1 h2 ⊢
      subst h1; subst h2
      refine Or.inr ⟨(sI (fun a => sI (gB τ r (fun _ => 1) a) 8) a + sI (gB τ r (fun _ => 1) a) (b + 1), nI (b + 1)), ?_, rfl, rfl⟩
      show f_Pl_waysBy_L13b N 10 _ _ τ (nI r) _ _ _ = _
      unfold f_Pl_waysBy_L13b
      rw [if_neg (show ¬ (8 : Int32) ≤ nI b from nI_ge (b := 8) hb (by omega))]
      by_cases q : By τ r a b ∧ τ 52 (32 * a + 4 * b + r % 4) = 1
      · rw [(needBy_y hr ha hb hB).1 q, obd_s, if_neg (by decide), ilet_s, ilet_s, nI_1, sI, show gB τ r (fun _ => 1) a b = 1 from if_pos q, Int32.add_assoc]
      · rw [(needBy_y hr ha hb hB).2 q, obd_s, if_pos rfl, ilet_s, nI_1, sI, show gB τ r (fun _ => 1) a b = 0 from if_neg q, Int32.add_zero]
theorem weightBy_y {N r : Nat} {τ : Hp} {m : Int32} (hN : 1000 ≤ N) (hr : r < 256) (hB : RB (τ 15) (τ 52)) : f_Pl_weightBy N 10 τ (nI r) m = some (sI (fun a => sI (gB τ r (fun w => imax m (τ 16 w)) a) 8) 8, τ) := by
  unfold f_Pl_weightBy
  refine lup (fun n (s : Int32 × Int32) => f_Pl_weightBy_L5 N 10 n τ (nI r) m s.1 s.2) (fun i s => s.1 = sI (fun a => sI (gB τ r (fun w => imax m (τ 16 w)) a) 8) i ∧ s.2 = nI i) (fun z => z = some (sI (fun a => sI (gB τ r (fun w => imax m (τ 16 w)) a) 8) 8, τ)) 8 ?_ ?_ N 0 (0, 0) (Nat.zero_le _) (by omega) ⟨rfl, rfl⟩
  · rintro n ⟨s1, s2⟩ ⟨h1, h2⟩
    dsimp only at h1 h2 ⊢
    subst h1; subst h2
    show f_Pl_weightBy_L5b N 10 _ τ (nI r) m _ _ = _
    unfold f_Pl_weightBy_L5b
    rw [if_pos (show (8 : Int32) ≤ nI 8 from by decide)]
  · rintro n a ⟨s1, s2⟩ ha ⟨h1, h2⟩
    dsimp only at h1 h2 ⊢
    subst h1; subst h2
    refine Or.inr ⟨(sI (fun a => sI (gB τ r (fun w => imax m (τ 16 w)) a) 8) (a + 1), nI (a + 1)), ?_, rfl, rfl⟩
    show f_Pl_weightBy_L5b N 10 _ τ (nI r) m _ _ = _
    unfold f_Pl_weightBy_L5b
    rw [if_neg (show ¬ (8 : Int32) ≤ nI a from nI_ge (b := 8) ha (by omega))]
    refine lup (fun n' (s : Int32 × Int32) => f_Pl_weightBy_L15 N 10 (f_Pl_weightBy_L5 N 10 n) n' τ (nI r) m s.1 (nI a) s.2) (fun i s => s.1 = sI (fun a => sI (gB τ r (fun w => imax m (τ 16 w)) a) 8) a + sI (gB τ r (fun w => imax m (τ 16 w)) a) i ∧ s.2 = nI i) (fun z => z = f_Pl_weightBy_L5 N 10 n τ (nI r) m (sI (fun a => sI (gB τ r (fun w => imax m (τ 16 w)) a) 8) (a + 1)) (nI (a + 1))) 8 ?_ ?_ N 0 (sI (fun a => sI (gB τ r (fun w => imax m (τ 16 w)) a) 8) a, 0) (Nat.zero_le _) (by omega) ⟨(Int32.add_zero _).symm, rfl⟩
    · rintro n' ⟨s1, s2⟩ ⟨h1, h2⟩
      dsimp only at h1 h2 ⊢
      subst h1; subst h2
      show f_Pl_weightBy_L15b N 10 _ _ τ (nI r) m _ _ _ = _
      unfold f_Pl_weightBy_L15b
      rw [if_pos (show (8 : Int32) ≤ nI 8 from by decide), ilet_s, nI_1]
      rfl
    · rintro n' b ⟨s1, s2⟩ hb ⟨h1, h2⟩
      dsimp only at h1 h2 ⊢
      subst h1; subst h2
      refine Or.inr ⟨(sI (fun a => sI (gB τ r (fun w => imax m (τ 16 w)) a) 8) a + sI (gB τ r (fun w => imax m (τ 16 w)) a) (b + 1), nI (b + 1)), ?_, rfl, rfl⟩
      show f_Pl_weightBy_L15b N 10 _ _ τ (nI r) m _ _ _ = _
      unfold f_Pl_weightBy_L15b
      rw [if_neg (show ¬ (8 : Int32) ≤ nI b from nI_ge (b := 8) hb (by omega))]
      by_cases q : By τ r a b ∧ τ 52 (32 * a + 4 * b + r % 4) = 1
      · rw [(needBy_y hr ha hb hB).1 q, obd_s, if_neg (by decide), doorOf_y hr, obd_s, wayOf_y, obd_s, ogd_t _ (inb_n (by omega) (by omega)), ilet_s, ilet_s, nI_1, nI_clamp (by omega), sI, show gB τ r (fun w => imax m (τ 16 w)) a b = imax m (τ 16 (32 * a + 4 * b + r % 4)) from if_pos q, Int32.add_assoc]
      · rw [(needBy_y hr ha hb hB).2 q, obd_s, if_pos rfl, ilet_s, nI_1, sI, show gB τ r (fun w => imax m (τ 16 w)) a b = 0 from if_neg q, Int32.add_zero]
/-- a must is by a rule -/
def mustBy (τ : Hp) (r : Nat) : Prop := ∃ a, a < 8 ∧ ∃ b, b < 8 ∧ By τ r a b ∧ τ 48 (32 * a + 4 * b + r % 4) = 1
theorem isMustBy_y {N r : Nat} {τ : Hp} (hN : 1000 ≤ N) (hr : r < 256) (hB : RB (τ 3) (τ 48)) : (mustBy τ r → f_Pl_isMustBy N 10 3 τ (nI r) = some (1, τ)) ∧ (¬ mustBy τ r → f_Pl_isMustBy N 10 3 τ (nI r) = some (0, τ)) := by
  have key : (fun z : OR => (mustBy τ r → z = some (1, τ)) ∧ (¬ mustBy τ r → z = some (0, τ))) (f_Pl_isMustBy N 10 3 τ (nI r)) := by
    unfold f_Pl_isMustBy
    refine lup (fun n (s : Int32) => f_Pl_isMustBy_L2 N 10 3 n τ (nI r) s) (fun i s => (∀ a, a < i → ¬ ∃ b, b < 8 ∧ By τ r a b ∧ τ 48 (32 * a + 4 * b + r % 4) = 1) ∧ s = nI i) (fun z => (mustBy τ r → z = some (1, τ)) ∧ (¬ mustBy τ r → z = some (0, τ))) 8 ?_ ?_ N 0 0 (Nat.zero_le _) (by omega) ⟨fun a ha => absurd ha (Nat.not_lt_zero a), rfl⟩
    · rintro n s ⟨h1, rfl⟩
      refine ⟨fun ⟨a, ha, h⟩ => absurd h (h1 a ha), fun _ => ?_⟩
      show f_Pl_isMustBy_L2b N 10 3 _ τ (nI r) _ = _
      unfold f_Pl_isMustBy_L2b
      rw [if_pos (show (8 : Int32) ≤ nI 8 from by decide)]
    · rintro n a s ha ⟨h1, rfl⟩
      have inner : (fun z : OR => ((∃ b, b < 8 ∧ By τ r a b ∧ τ 48 (32 * a + 4 * b + r % 4) = 1) → z = some (1, τ)) ∧ ((¬ ∃ b, b < 8 ∧ By τ r a b ∧ τ 48 (32 * a + 4 * b + r % 4) = 1) → z = f_Pl_isMustBy_L2 N 10 3 n τ (nI r) (nI (a + 1)))) (f_Pl_isMustBy_L2 N 10 3 (n + 1) τ (nI r) (nI a)) := by
        show (fun z : OR => ((∃ b, b < 8 ∧ By τ r a b ∧ τ 48 (32 * a + 4 * b + r % 4) = 1) → z = some (1, τ)) ∧ ((¬ ∃ b, b < 8 ∧ By τ r a b ∧ τ 48 (32 * a + 4 * b + r % 4) = 1) → z = f_Pl_isMustBy_L2 N 10 3 n τ (nI r) (nI (a + 1)))) (f_Pl_isMustBy_L2b N 10 3 (f_Pl_isMustBy_L2 N 10 3 n) τ (nI r) (nI a))
        unfold f_Pl_isMustBy_L2b
        rw [if_neg (show ¬ (8 : Int32) ≤ nI a from nI_ge (b := 8) ha (by omega))]
        refine lup (fun n' (s : Int32) => f_Pl_isMustBy_L11 N 10 3 (f_Pl_isMustBy_L2 N 10 3 n) n' τ (nI r) (nI a) s) (fun i s => (∀ b, b < i → ¬ (By τ r a b ∧ τ 48 (32 * a + 4 * b + r % 4) = 1)) ∧ s = nI i) (fun z => ((∃ b, b < 8 ∧ By τ r a b ∧ τ 48 (32 * a + 4 * b + r % 4) = 1) → z = some (1, τ)) ∧ ((¬ ∃ b, b < 8 ∧ By τ r a b ∧ τ 48 (32 * a + 4 * b + r % 4) = 1) → z = f_Pl_isMustBy_L2 N 10 3 n τ (nI r) (nI (a + 1)))) 8 ?_ ?_ N 0 0 (Nat.zero_le _) (by omega) ⟨fun a ha => absurd ha (Nat.not_lt_zero a), rfl⟩
        · rintro n' s ⟨h1, rfl⟩
          refine ⟨fun ⟨b, hb, h⟩ => absurd h (h1 b hb), fun _ => ?_⟩
          show f_Pl_isMustBy_L11b N 10 3 _ _ τ (nI r) _ _ = _
          unfold f_Pl_isMustBy_L11b
          rw [if_pos (show (8 : Int32) ≤ nI 8 from by decide), ilet_s, nI_1]
        · rintro n' b s hb ⟨h1, rfl⟩
          obtain ⟨m, hm, e1, e2⟩ := hB.at (p := 8 * a + b) (d := r % 4) (by omega) (by omega)
          rw [show 4 * (8 * a + b) + r % 4 = 32 * a + 4 * b + r % 4 by omega] at e2
          have hgo : ¬ (By τ r a b ∧ τ 48 (32 * a + 4 * b + r % 4) = 1) → ∀ b', b' < b + 1 → ¬ (By τ r a b' ∧ τ 48 (32 * a + 4 * b' + r % 4) = 1) := fun hno b' hb' => by
            rcases Nat.lt_or_ge b' b with q | q
            · exact h1 b' q
            · have : b' = b := by omega
              subst this; exact hno
          by_cases q : By τ r a b
          · by_cases q2 : m.testBit (r % 4) = true
            · refine Or.inl ⟨fun _ => ?_, fun h => absurd ⟨b, hb, q, by rw [e2, if_pos q2]⟩ h⟩
              show f_Pl_isMustBy_L11b N 10 3 _ _ τ (nI r) _ _ = _
              unfold f_Pl_isMustBy_L11b
              rw [if_neg (show ¬ (8 : Int32) ≤ nI b from nI_ge (b := 8) hb (by omega)), (isBy_y hr ha hb).1 q, obd_s, if_neg (by decide), pairOf_y, obd_s, ogd_t _ (inb_n (by omega) (by omega)), doorOf_y hr, obd_s, nI_clamp (by omega), e1, door_y hm (by omega), obd_s, if_pos q2, if_neg (by decide)]
            · refine Or.inr ⟨nI (b + 1), ?_, hgo (fun h => by rw [e2, if_neg q2] at h; exact absurd h.2 (by decide)), rfl⟩
              show f_Pl_isMustBy_L11b N 10 3 _ _ τ (nI r) _ _ = _
              unfold f_Pl_isMustBy_L11b
              rw [if_neg (show ¬ (8 : Int32) ≤ nI b from nI_ge (b := 8) hb (by omega)), (isBy_y hr ha hb).1 q, obd_s, if_neg (by decide), pairOf_y, obd_s, ogd_t _ (inb_n (by omega) (by omega)), doorOf_y hr, obd_s, nI_clamp (by omega), e1, door_y hm (by omega), obd_s, if_neg q2, if_pos rfl, ilet_s, nI_1]
          · refine Or.inr ⟨nI (b + 1), ?_, hgo (fun h => q h.1), rfl⟩
            show f_Pl_isMustBy_L11b N 10 3 _ _ τ (nI r) _ _ = _
            unfold f_Pl_isMustBy_L11b
            rw [if_neg (show ¬ (8 : Int32) ≤ nI b from nI_ge (b := 8) hb (by omega)), (isBy_y hr ha hb).2 q, obd_s, if_pos rfl, ilet_s, nI_1]
      by_cases q : ∃ b, b < 8 ∧ By τ r a b ∧ τ 48 (32 * a + 4 * b + r % 4) = 1
      · exact Or.inl ⟨fun _ => inner.1 q, fun h => absurd ⟨a, ha, q⟩ h⟩
      · refine Or.inr ⟨nI (a + 1), inner.2 q, fun a' ha' => ?_, rfl⟩
        rcases Nat.lt_or_ge a' a with q2 | q2
        · exact h1 a' q2
        · have : a' = a := by omega
          subst this; exact q
  exact key
def mBy (τ : Hp) (r w : Nat) : Prop := τ 44 (w / 32) = nI (r / 32) ∧ τ 44 (w / 4 % 8) = nI (r / 4 % 8) ∧ w % 4 = r % 4
theorem misBy_y {N r w : Nat} {τ : Hp} (hr : r < 256) (hw : w < 256) (hne : r / 32 ≠ r / 4 % 8) (hv : RV (τ 44)) : (mBy τ r w → f_Mo_isBy N 42 τ (nI w) (nI r) = some (1, τ)) ∧ (¬ mBy τ r w → f_Mo_isBy N 42 τ (nI w) (nI r) = some (0, τ)) := by
  obtain ⟨r1, r2, r3, r4, r5⟩ := rule3 w hw
  have e : f_Mo_isBy N 42 τ (nI w) (nI r) = if τ 44 (w / 32) = (-1) then some (0, τ) else (if τ 44 (w / 4 % 8) = (-1) then some (0, τ) else (if τ 44 (w / 32) = τ 44 (w / 4 % 8) then some (0, τ) else (if 32 * τ 44 (w / 32) + 4 * τ 44 (w / 4 % 8) + nI (w % 4) = nI r then some (1, τ) else some (0, τ)))) := by
    unfold f_Mo_isBy
    rw [r4, r2, r3, ogd_t _ (inb_n (i := w / 32) (by omega) (by omega)), ilet_s, ogd_t _ (inb_n (i := w / 4 % 8) (by omega) (by omega)), ilet_s, nI_clamp (by omega), nI_clamp (by omega)]
  rw [e]
  rcases hv (w / 32) (by omega) with h1 | ⟨x, hx, h1⟩
  · rw [if_pos h1]
    exact ⟨fun h => absurd (h1.symm.trans h.1) (nm1_ne' (by omega)), fun _ => rfl⟩
  · rw [if_neg (by rw [h1]; exact nm1_ne (by omega))]
    rcases hv (w / 4 % 8) (by omega) with h2 | ⟨y, hy, h2⟩
    · rw [if_pos h2]
      exact ⟨fun h => absurd (h2.symm.trans h.2.1) (nm1_ne' (by omega)), fun _ => rfl⟩
    · rw [if_neg (by rw [h2]; exact nm1_ne (by omega)), h1, h2]
      have hx3 : mBy τ r w ↔ 32 * x + 4 * y + w % 4 = r := by
        unfold mBy
        rw [h1, h2, nI_eq (by omega) (by omega), nI_eq (by omega) (by omega)]
        omega
      rw [hx3, li32, li4, pk_mul, pk_mul, nI_add, nI_add]
      by_cases q : nI x = nI y
      · rw [if_pos q]
        have q' := (nI_eq (by omega) (by omega)).mp q
        refine ⟨fun h => ?_, fun _ => rfl⟩
        obtain ⟨z1, z2, -⟩ := wy3 (a := x) (b := y) (d := w % 4) hy (by omega)
        rw [h] at z1 z2
        exact absurd (z1.trans (q'.trans z2.symm)) hne
      · rw [if_neg q]
        by_cases q2 : nI (32 * x + 4 * y + w % 4) = nI r
        · rw [if_pos q2]
          exact ⟨fun _ => rfl, fun h => absurd ((nI_eq (by omega) (by omega)).mp q2) h⟩
        · rw [if_neg q2]
          exact ⟨fun h => absurd (by rw [h]) q2, fun _ => rfl⟩
theorem canShut_y {N r : Nat} {τ : Hp} (hN : 1000 ≤ N) (hr : r < 256) (hne : r / 32 ≠ r / 4 % 8) (hv : RV (τ 44)) (h01 : ∀ w, w < 256 → τ 48 w = 0 ∨ τ 48 w = 1) : ((∃ w, w < 256 ∧ mBy τ r w ∧ τ 48 w = 1) → f_Mo_canShut N 42 τ (nI r) = some (0, τ)) ∧ ((¬ ∃ w, w < 256 ∧ mBy τ r w ∧ τ 48 w = 1) → f_Mo_canShut N 42 τ (nI r) = some (1, τ)) := by
  have key : (fun z : OR => ((∃ w, w < 256 ∧ mBy τ r w ∧ τ 48 w = 1) → z = some (0, τ)) ∧ ((¬ ∃ w, w < 256 ∧ mBy τ r w ∧ τ 48 w = 1) → z = some (1, τ))) (f_Mo_canShut N 42 τ (nI r)) := by
    unfold f_Mo_canShut
    refine lup (fun n (s : Int32) => f_Mo_canShut_L2 N 42 n τ (nI r) s) (fun i s => (∀ w, w < i → ¬ (mBy τ r w ∧ τ 48 w = 1)) ∧ s = nI i) (fun z => ((∃ w, w < 256 ∧ mBy τ r w ∧ τ 48 w = 1) → z = some (0, τ)) ∧ ((¬ ∃ w, w < 256 ∧ mBy τ r w ∧ τ 48 w = 1) → z = some (1, τ))) 256 ?_ ?_ N 0 0 (Nat.zero_le _) (by omega) ⟨fun a ha => absurd ha (Nat.not_lt_zero a), rfl⟩
    · rintro n s ⟨h1, rfl⟩
      refine ⟨fun ⟨w, hw, h⟩ => absurd h (h1 w hw), fun _ => ?_⟩
      show f_Mo_canShut_L2b N 42 _ τ (nI r) _ = _
      unfold f_Mo_canShut_L2b
      rw [if_pos (show (256 : Int32) ≤ nI 256 from by decide)]
    · rintro n w s hw ⟨h1, rfl⟩
      have hgo : ¬ (mBy τ r w ∧ τ 48 w = 1) → ∀ b', b' < w + 1 → ¬ (mBy τ r b' ∧ τ 48 b' = 1) := fun hno b' hb' => by
        rcases Nat.lt_or_ge b' w with q | q
        · exact h1 b' q
        · have : b' = w := by omega
          subst this; exact hno
      rcases h01 w hw with q0 | q0
      · refine Or.inr ⟨nI (w + 1), ?_, hgo (fun h => by rw [q0] at h; exact absurd h.2 (by decide)), rfl⟩
        show f_Mo_canShut_L2b N 42 _ τ (nI r) _ = _
        unfold f_Mo_canShut_L2b
        rw [if_neg (show ¬ (256 : Int32) ≤ nI w from nI_ge (b := 256) hw (by omega)), ogd_t _ (inb_n hw (by omega)), nI_clamp (by omega)]
        show (if τ 48 w = 0 then _ else _) = _
        rw [if_pos q0, ilet_s, nI_1]
      · by_cases q : mBy τ r w
        · refine Or.inl ⟨fun _ => ?_, fun h => absurd ⟨w, hw, q, q0⟩ h⟩
          show f_Mo_canShut_L2b N 42 _ τ (nI r) _ = _
          unfold f_Mo_canShut_L2b
          rw [if_neg (show ¬ (256 : Int32) ≤ nI w from nI_ge (b := 256) hw (by omega)), ogd_t _ (inb_n hw (by omega)), nI_clamp (by omega)]
          show (if τ 48 w = 0 then _ else _) = _
          rw [if_neg (by rw [q0]; decide), (misBy_y hr hw hne hv).1 q, obd_s, if_neg (by decide)]
        · refine Or.inr ⟨nI (w + 1), ?_, hgo (fun h => q h.1), rfl⟩
          show f_Mo_canShut_L2b N 42 _ τ (nI r) _ = _
          unfold f_Mo_canShut_L2b
          rw [if_neg (show ¬ (256 : Int32) ≤ nI w from nI_ge (b := 256) hw (by omega)), ogd_t _ (inb_n hw (by omega)), nI_clamp (by omega)]
          show (if τ 48 w = 0 then _ else _) = _
          rw [if_neg (by rw [q0]; decide), (misBy_y hr hw hne hv).2 q, obd_s, if_pos rfl, ilet_s, nI_1]
  exact key
theorem mustBy_iff {τ : Hp} {n R r : Nat} (hr : r < 256) (h : IR n R (τ 12) (τ 44)) : (∃ w, w < 256 ∧ mBy τ r w ∧ τ 48 w = 1) ↔ mustBy τ r := by
  constructor
  · rintro ⟨w, hw, ⟨h1, h2, h3⟩, h4⟩
    refine ⟨w / 32, by omega, w / 4 % 8, by omega, ⟨?_, ?_⟩, ?_⟩
    · rw [← (h.2.1 _ (by omega)).1]; exact h1
    · rw [← (h.2.1 _ (by omega)).1]; exact h2
    · rw [show 32 * (w / 32) + 4 * (w / 4 % 8) + r % 4 = w by omega]; exact h4
  · rintro ⟨a, ha, b, hb, ⟨h1, h2⟩, h4⟩
    obtain ⟨z1, z2, z3⟩ := wy3 (a := a) (b := b) (d := r % 4) hb (by omega)
    refine ⟨32 * a + 4 * b + r % 4, by omega, ⟨?_, ?_, z3⟩, h4⟩
    · rw [z1, (h.2.1 _ ha).1]; exact h1
    · rw [z2, (h.2.1 _ hb).1]; exact h2
theorem cq_kth {q : Nat → Int32} {k : Nat} : ∀ {n : Nat}, k < cq q n → ∃ r, r < n ∧ q r = 1 ∧ cq q r = k
  | 0, h => absurd h (Nat.not_lt_zero k)
  | n + 1, h => by
    rcases Nat.lt_or_ge k (cq q n) with h1 | h1
    · obtain ⟨r, a, b⟩ := cq_kth h1
      exact ⟨r, by omega, b⟩
    · rw [cq_s] at h
      by_cases h2 : q n = 1
      · rw [if_pos h2] at h; exact ⟨n, by omega, h2, by omega⟩
      · rw [if_neg h2] at h; omega
theorem cq_inj {q : Nat → Int32} {r s : Nat} (hr : q r = 1) (hs : q s = 1) (h : cq q r = cq q s) : r = s := by
  rcases Nat.lt_trichotomy r s with q1 | q1 | q1
  · have h1 := cq_mono (q := q) s (show r + 1 ≤ s from q1)
    rw [cq_s, if_pos hr] at h1; omega
  · exact q1
  · have h1 := cq_mono (q := q) r (show s + 1 ≤ r from q1)
    rw [cq_s, if_pos hs] at h1; omega
theorem cq_lt {q : Nat → Int32} {r n : Nat} (hr : q r = 1) (h : r < n) : cq q r < cq q n := by
  have h1 := cq_mono (q := q) n (show r + 1 ≤ n from h)
  rw [cq_s, if_pos hr] at h1; omega
theorem ruleAt_y {N r : Nat} {τ : Hp} (hN : 1000 ≤ N) (h01 : ∀ r, r < 256 → τ 57 r = 0 ∨ τ 57 r = 1) (hr : r < 256) (h1 : τ 57 r = 1) : f_Mo_ruleAt N 42 τ (nI (cq (τ 57) r)) = some (nI r, τ) := by
  have hc := cq_le (q := τ 57) r
  unfold f_Mo_ruleAt
  refine lup (fun n (s : Int32 × Int32) => f_Mo_ruleAt_L4 N 42 n τ (nI (cq (τ 57) r)) s.1 s.2) (fun i s => i ≤ r ∧ s.1 = nI (cq (τ 57) r - cq (τ 57) i) ∧ s.2 = nI i) (fun z => z = some (nI r, τ)) 256 ?_ ?_ N 0 (nI (cq (τ 57) r), 0) (Nat.zero_le _) (by omega) ⟨Nat.zero_le _, rfl, rfl⟩
  · rintro n ⟨s1, s2⟩ ⟨h2, -⟩
    omega
  · rintro n i ⟨s1, s2⟩ hi ⟨h2, h3, h4⟩
    dsimp only at h3 h4 ⊢
    subst h3; subst h4
    have hm := cq_mono (q := τ 57) r h2
    have e : f_Mo_ruleAt_L4 N 42 (n + 1) τ (nI (cq (τ 57) r)) (nI (cq (τ 57) r - cq (τ 57) i)) (nI i) = if τ 57 i = 0 then ilet (nI i + 1) (fun x1 => f_Mo_ruleAt_L4 N 42 n τ (nI (cq (τ 57) r)) (nI (cq (τ 57) r - cq (τ 57) i)) x1) else (if nI (cq (τ 57) r - cq (τ 57) i) = 0 then some (nI i, τ) else ilet (nI (cq (τ 57) r - cq (τ 57) i) + (-1)) fun x2 => ilet (nI i + 1) fun x3 => f_Mo_ruleAt_L4 N 42 n τ (nI (cq (τ 57) r)) x2 x3) := by
      show f_Mo_ruleAt_L4b N 42 _ τ _ _ _ = _
      unfold f_Mo_ruleAt_L4b
      rw [if_neg (show ¬ (256 : Int32) ≤ nI i from nI_ge (b := 256) hi (by omega)), if_neg (nI_pos (by omega)), ogd_t _ (inb_n hi (by omega)), nI_clamp (by omega)]
    rw [e]
    rcases h01 i hi with q | q
    · have hne : i ≠ r := fun q2 => by rw [q2, h1] at q; exact absurd q (by decide)
      refine Or.inr ⟨(nI (cq (τ 57) r - cq (τ 57) i), nI (i + 1)), ?_, by omega, ?_, rfl⟩
      · rw [if_pos q, ilet_s, nI_1]
      · rw [cq_s, if_neg (by rw [q]; decide)]; rfl
    · by_cases q2 : i = r
      · refine Or.inl ?_
        rw [if_neg (by rw [q]; decide), q2, Nat.sub_self, if_pos (show nI 0 = 0 from rfl)]
      · have hlt := cq_lt (q := τ 57) q (show i < r by omega)
        refine Or.inr ⟨(nI (cq (τ 57) r - cq (τ 57) (i + 1)), nI (i + 1)), ?_, by omega, rfl, rfl⟩
        rw [if_neg (by rw [q]; decide), if_neg (nI_ne0 (by omega) (by omega)), ilet_s, ilet_s, nI_1, sb_m1 (by omega), cq_s, if_pos q]
        rw [show cq (τ 57) r - cq (τ 57) i - 1 = cq (τ 57) r - (cq (τ 57) i + 1) by omega]
theorem ruleAt_n {N : Nat} {τ : Hp} {v1 : Int32} (hN : 1000 ≤ N) (h01 : ∀ r, r < 256 → τ 57 r = 0 ∨ τ 57 r = 1) (h : ¬ ∃ a, a < cq (τ 57) 256 ∧ v1 = nI a) : f_Mo_ruleAt N 42 τ v1 = some ((-1), τ) := by
  unfold f_Mo_ruleAt
  by_cases h0 : v1 < 0
  · obtain ⟨M, rfl⟩ : ∃ M, N = M + 1 := ⟨N - 1, by omega⟩
    show f_Mo_ruleAt_L4b (M + 1) 42 _ τ _ _ _ = _
    unfold f_Mo_ruleAt_L4b
    rw [if_neg (by decide), if_pos h0]
  · obtain ⟨k, hk, rfl⟩ := nI_of h0
    have hkc : cq (τ 57) 256 ≤ k := Nat.le_of_not_lt fun q => h ⟨k, q, rfl⟩
    refine lup (fun n (s : Int32 × Int32) => f_Mo_ruleAt_L4 N 42 n τ (nI k) s.1 s.2) (fun i s => s.1 = nI (k - cq (τ 57) i) ∧ s.2 = nI i) (fun z => z = some ((-1), τ)) 256 ?_ ?_ N 0 (nI k, 0) (Nat.zero_le _) (by omega) ⟨rfl, rfl⟩
    · rintro n ⟨s1, s2⟩ ⟨h3, h4⟩
      dsimp only at h3 h4 ⊢
      subst h3; subst h4
      show f_Mo_ruleAt_L4b N 42 _ τ _ _ _ = _
      unfold f_Mo_ruleAt_L4b
      rw [if_pos (show (256 : Int32) ≤ nI 256 from by decide)]
    · rintro n i ⟨s1, s2⟩ hi ⟨h3, h4⟩
      dsimp only at h3 h4 ⊢
      subst h3; subst h4
      have e : f_Mo_ruleAt_L4 N 42 (n + 1) τ (nI k) (nI (k - cq (τ 57) i)) (nI i) = if τ 57 i = 0 then ilet (nI i + 1) (fun x1 => f_Mo_ruleAt_L4 N 42 n τ (nI k) (nI (k - cq (τ 57) i)) x1) else (if nI (k - cq (τ 57) i) = 0 then some (nI i, τ) else ilet (nI (k - cq (τ 57) i) + (-1)) fun x2 => ilet (nI i + 1) fun x3 => f_Mo_ruleAt_L4 N 42 n τ (nI k) x2 x3) := by
        show f_Mo_ruleAt_L4b N 42 _ τ _ _ _ = _
        unfold f_Mo_ruleAt_L4b
        rw [if_neg (show ¬ (256 : Int32) ≤ nI i from nI_ge (b := 256) hi (by omega)), if_neg (nI_pos (by omega)), ogd_t _ (inb_n hi (by omega)), nI_clamp (by omega)]
      rw [e]
      rcases h01 i hi with q | q
      · refine Or.inr ⟨(nI (k - cq (τ 57) i), nI (i + 1)), ?_, ?_, rfl⟩
        · rw [if_pos q, ilet_s, nI_1]
        · rw [cq_s, if_neg (by rw [q]; decide)]; rfl
      · have hlt := cq_lt (q := τ 57) q hi
        refine Or.inr ⟨(nI (k - cq (τ 57) (i + 1)), nI (i + 1)), ?_, rfl, rfl⟩
        rw [if_neg (by rw [q]; decide), if_neg (nI_ne0 (by omega) (by omega)), ilet_s, ilet_s, nI_1, sb_m1 (by omega), cq_s, if_pos q]
        rw [show k - cq (τ 57) i - 1 = k - (cq (τ 57) i + 1) by omega]
/-- the model's sums over all ways -/
def gM (τ : Hp) (r : Nat) (x : Nat → Int32) (w : Nat) : Int32 := if (τ 44 (w / 32) = nI (r / 32) ∧ τ 44 (w / 4 % 8) = nI (r / 4 % 8) ∧ w % 4 = r % 4) ∧ τ 52 w = 1 then x w else 0
theorem gM_gB {τ : Hp} {n R r : Nat} {x y : Nat → Int32} (h : IR n R (τ 12) (τ 44)) (hxy : ∀ w, w < 256 → x w = y w) : sI (gM τ r x) 256 = sI (fun a => sI (gB τ r y a) 8) 8 := by
  rw [sI_256 (g := gM τ r x) (d := r % 4) (by omega) (fun w hw => if_neg (fun q => hw q.1.2.2))]
  refine sI_cg (fun a ha => sI_cg (fun b hb => ?_))
  obtain ⟨z1, z2, z3⟩ := wy3 (a := a) (b := b) (d := r % 4) hb (by omega)
  unfold gM gB
  rw [z1, z2, z3, (h.2.1 a ha).1, (h.2.1 b hb).1, hxy _ (by omega)]
  by_cases q : (τ 12 a = nI (r / 32) ∧ τ 12 b = nI (r / 4 % 8)) ∧ τ 52 (32 * a + 4 * b + r % 4) = 1
  · rw [if_pos q, if_pos ⟨⟨q.1.1, q.1.2, rfl⟩, q.2⟩]
  · rw [if_neg q, if_neg (fun e => q ⟨⟨e.1.1, e.1.2.1⟩, e.2⟩)]
theorem RB.d01 {r q : Nat → Int32} (h : RB r q) {w : Nat} (hw : w < 256) : q w = 0 ∨ q w = 1 := by
  obtain ⟨m, -, -, e⟩ := h.at (p := w / 4) (d := w % 4) (by omega) (by omega)
  rw [show 4 * (w / 4) + w % 4 = w by omega] at e
  rw [e]
  by_cases q : m.testBit (w % 4) = true
  · rw [if_pos q]; exact Or.inr rfl
  · rw [if_neg q]; exact Or.inl rfl
theorem mrule_y {N r : Nat} {τ : Hp} {v2 : Int32} (hN : 1000 ≤ N) (hr : r < 256) (hne : r / 32 ≠ r / 4 % 8) (hv : RV (τ 44)) (hB : RB (τ 15) (τ 52)) : f_Mo_rule_L27 N 42 N τ v2 (nI r) 0 0 0 = if v2 = 0 then some (nI (r / 32), τ) else if v2 = 1 then some (nI (r / 4 % 8), τ) else if v2 = 2 then some (nI (r % 4), τ) else if v2 = 3 then some (sI (gM τ r (fun _ => 1)) 256, τ) else if v2 = 4 then some (sI (gM τ r (τ 53)) 256, τ) else if v2 = 5 then obd (f_Mo_canShut N 42 τ (nI r)) (fun r1 τ2 => (if r1 = 0 then some (0, τ2) else some (1, τ2))) else some ((-1), τ) := by
  obtain ⟨r1, r2, r3, r4, r5⟩ := rule3 r hr
  refine lup (fun n (s : Int32 × Int32 × Int32) => f_Mo_rule_L27 N 42 n τ v2 (nI r) s.1 s.2.1 s.2.2) (fun i s => s.1 = sI (gM τ r (fun _ => 1)) i ∧ s.2.1 = sI (gM τ r (τ 53)) i ∧ s.2.2 = nI i) (fun z => z = if v2 = 0 then some (nI (r / 32), τ) else if v2 = 1 then some (nI (r / 4 % 8), τ) else if v2 = 2 then some (nI (r % 4), τ) else if v2 = 3 then some (sI (gM τ r (fun _ => 1)) 256, τ) else if v2 = 4 then some (sI (gM τ r (τ 53)) 256, τ) else if v2 = 5 then obd (f_Mo_canShut N 42 τ (nI r)) (fun r1 τ2 => (if r1 = 0 then some (0, τ2) else some (1, τ2))) else some ((-1), τ)) 256 ?_ ?_ N 0 (0, 0, 0) (Nat.zero_le _) (by omega) ⟨rfl, rfl, rfl⟩
  · rintro n ⟨s1, s2, s3⟩ ⟨h1, h2, h3⟩
    dsimp only at h1 h2 h3 ⊢
    subst h1; subst h2; subst h3
    show f_Mo_rule_L27b N 42 _ τ _ _ _ _ _ = _
    unfold f_Mo_rule_L27b
    rw [if_pos (show (256 : Int32) ≤ nI 256 from by decide), r4, r2, r3]
  · rintro n i ⟨s1, s2, s3⟩ hi ⟨h1, h2, h3⟩
    dsimp only at h1 h2 h3 ⊢
    subst h1; subst h2; subst h3
    refine Or.inr ⟨(sI (gM τ r (fun _ => 1)) (i + 1), sI (gM τ r (τ 53)) (i + 1), nI (i + 1)), ?_, rfl, rfl, rfl⟩
    show f_Mo_rule_L27b N 42 _ τ _ _ _ _ _ = _
    unfold f_Mo_rule_L27b
    rw [if_neg (show ¬ (256 : Int32) ≤ nI i from nI_ge (b := 256) hi (by omega)), ogd_t _ (inb_n hi (by omega)), nI_clamp (by omega)]
    show (if τ 52 i = 0 then _ else _) = _
    rcases hB.d01 hi with q | q
    · rw [if_pos q, ilet_s, nI_1, sI, sI, show gM τ r (fun _ => 1) i = 0 from if_neg (fun e => by rw [q] at e; exact absurd e.2 (by decide)), show gM τ r (τ 53) i = 0 from if_neg (fun e => by rw [q] at e; exact absurd e.2 (by decide)), Int32.add_zero, Int32.add_zero]
    · rw [if_neg (by rw [q]; decide)]
      by_cases q2 : mBy τ r i
      · rw [(misBy_y hr hi hne hv).1 q2, obd_s, if_neg (by decide), ilet_s, ogd_t _ (inb_n hi (by omega)), ilet_s, ilet_s, nI_1, sI, sI, show gM τ r (fun _ => 1) i = 1 from if_pos ⟨q2, q⟩, show gM τ r (τ 53) i = τ 53 i from if_pos ⟨q2, q⟩]
      · rw [(misBy_y hr hi hne hv).2 q2, obd_s, if_pos rfl, ilet_s, nI_1, sI, sI, show gM τ r (fun _ => 1) i = 0 from if_neg (fun e => q2 e.1), show gM τ r (τ 53) i = 0 from if_neg (fun e => q2 e.1), Int32.add_zero, Int32.add_zero]
theorem imax_0 {x : Nat} (h : x < 2 ^ 31) : imax 0 (nI x) = nI x := by
  unfold imax
  rcases Nat.eq_zero_or_pos x with q | q
  · subst q; rfl
  · rw [if_pos (show (0 : Int32) < nI x from nI_lt (a := 0) q h)]
theorem ok_rule (N : Nat) (hN : 1000 ≤ N) : op_rule N Inv := by
  intro v1 v2
  refine ok_read (fun τ hI => ?_)
  obtain ⟨n, t, wi, le, rp, sp, mk, R, hH, hT, hB, hL, hP, hS, hO⟩ := id hI
  obtain ⟨p1, p2, p3, p4, p5, p6, p7, p8, p9, p10, p11, p12⟩ := hP
  obtain ⟨u1, u2, u3, u4, u5, u6⟩ := p7
  rcases btw_c N τ v1 (c := cq (τ 57) 256) (by omega) with ⟨k, hk, rfl, hb⟩ | ⟨hno, hb⟩
  · obtain ⟨r, hr, h1, hk2⟩ := cq_kth hk
    subst hk2
    have e17 := u5 r hr h1
    have hne := (u2 r hr h1).2.2
    have hdec : mustBy τ r ∨ ¬ mustBy τ r := Classical.em _
    obtain ⟨mb, hmb⟩ : ∃ mb : Int32, (mustBy τ r → mb = 0) ∧ (¬ mustBy τ r → mb = 1) := by
      rcases hdec with q | q
      · exact ⟨0, fun _ => rfl, fun h => absurd q h⟩
      · exact ⟨1, fun h => absurd h q, fun _ => rfl⟩
    refine ⟨if v2 = 0 then nI (r / 32) else if v2 = 1 then nI (r / 4 % 8) else if v2 = 2 then nI (r % 4) else if v2 = 3 then sI (gM τ r (fun _ => 1)) 256 else if v2 = 4 then sI (gM τ r (τ 53)) 256 else if v2 = 5 then mb else (-1), τ, ?_, Sx.rf, fun υ hυ hs => ⟨_, ?_, sxT υ⟩⟩
    · unfold f_WP_rule
      show obd (f_WP_isBetween N τ _ 0 (τ 10 3 - 1)) _ = _
      rw [u3, hb, obd_s, if_neg (by decide), ogd_t _ (inb_n (by omega) (by omega)), ilet_s, nI_clamp (by omega)]
      show (if v2 = 0 then obd (f_WP_firstOf N τ (τ 17 (cq (τ 57) r))) _ else if v2 = 1 then obd (f_WP_secondOf N τ (τ 17 (cq (τ 57) r))) _ else if v2 = 2 then obd (f_WP_doorOf N τ (τ 17 (cq (τ 57) r))) _ else if v2 = 3 then obd (f_Pl_waysBy N 10 τ (τ 17 (cq (τ 57) r))) _ else if v2 = 4 then obd (f_Pl_weightBy N 10 τ (τ 17 (cq (τ 57) r)) 0) _ else if v2 = 5 then obd (f_Pl_isMustBy N 10 3 τ (τ 17 (cq (τ 57) r))) _ else some ((-1), τ)) = _
      rw [e17, firstOf_y hr, secondOf_y hr, doorOf_y hr, waysBy_y hN hr p8, weightBy_y hN hr p8, obd_s, obd_s, obd_s, obd_s, obd_s, ← gM_gB (x := fun _ => 1) p6 (fun _ _ => rfl), ← gM_gB (x := τ 53) p6 (fun w hw => by
        obtain ⟨x, hx, e1, e2⟩ := p9 w hw
        show τ 53 w = imax 0 (τ 16 w)
        rw [e1, e2, imax_0 (by omega)])]
      have e5 : obd (f_Pl_isMustBy N 10 3 τ (nI r)) (fun r14 τ15 => if r14 = 0 then some (1, τ15) else some (0, τ15)) = some (mb, τ) := by
        rcases hdec with q | q
        · rw [(isMustBy_y hN hr hB.1).1 q, obd_s, if_neg (by decide), hmb.1 q]
        · rw [(isMustBy_y hN hr hB.1).2 q, obd_s, if_pos rfl, hmb.2 q]
      rw [e5]
      by_cases q0 : v2 = 0
      · rw [if_pos q0, if_pos q0]
      by_cases q1 : v2 = 1
      · rw [if_neg q0, if_neg q0, if_pos q1, if_pos q1]
      by_cases q2 : v2 = 2
      · rw [if_neg q0, if_neg q0, if_neg q1, if_neg q1, if_pos q2, if_pos q2]
      by_cases q3 : v2 = 3
      · rw [if_neg q0, if_neg q0, if_neg q1, if_neg q1, if_neg q2, if_neg q2, if_pos q3, if_pos q3]
      by_cases q4 : v2 = 4
      · rw [if_neg q0, if_neg q0, if_neg q1, if_neg q1, if_neg q2, if_neg q2, if_neg q3, if_neg q3, if_pos q4, if_pos q4]
      by_cases q5 : v2 = 5
      · rw [if_neg q0, if_neg q0, if_neg q1, if_neg q1, if_neg q2, if_neg q2, if_neg q3, if_neg q3, if_neg q4, if_neg q4, if_pos q5, if_pos q5]
      · rw [if_neg q0, if_neg q0, if_neg q1, if_neg q1, if_neg q2, if_neg q2, if_neg q3, if_neg q3, if_neg q4, if_neg q4, if_neg q5, if_neg q5]
    · unfold f_Mo_rule
      rw [mth]
      have hυ1 : Sx cA τ (upR υ 42 (upd (υ 42) 0 0)) := (cA_C hs).tr (cA_M (sxT υ))
      obtain ⟨ω, hω⟩ : ∃ ω, ω = upR υ 42 (upd (υ 42) 0 0) := ⟨_, rfl⟩
      rw [← hω] at hυ1 ⊢
      have w57 : ω 57 = τ 57 := hυ1.row 57 (fun _ => rfl)
      have w44 : ω 44 = τ 44 := hυ1.row 44 (fun _ => rfl)
      have w12 : ω 12 = τ 12 := hυ1.row 12 (fun _ => rfl)
      have w48 : ω 48 = τ 48 := hυ1.row 48 (fun _ => rfl)
      have w15 : ω 15 = τ 15 := hυ1.row 15 (fun _ => rfl)
      have w52 : ω 52 = τ 52 := hυ1.row 52 (fun _ => rfl)
      have w53 : ω 53 = τ 53 := hυ1.row 53 (fun _ => rfl)
      have hra := ruleAt_y (N := N) (τ := ω) hN (by rw [w57]; exact u1) hr (by rw [w57]; exact h1)
      rw [w57] at hra
      rw [hra, obd_s, if_neg (nm1_ne (by omega)), mrule_y hN hr hne (by rw [w44]; exact p6.rv') (by rw [w15, w52]; exact p8)]
      have e5 : obd (f_Mo_canShut N 42 ω (nI r)) (fun r1 τ2 => (if r1 = 0 then some (0, τ2) else some (1, τ2))) = some (mb, ω) := by
        have hc := canShut_y (N := N) (r := r) (τ := ω) hN hr hne (by rw [w44]; exact p6.rv') (by rw [w48]; exact fun w hw => hB.1.d01 hw)
        have hiff := mustBy_iff (τ := ω) (n := n) (R := R) hr (by rw [w12, w44]; exact p6)
        have hmm : mustBy ω r ↔ mustBy τ r := by unfold mustBy By; rw [w12, w48]
        rcases hdec with q | q
        · rw [hc.1 (hiff.mpr (hmm.mpr q)), obd_s, if_pos rfl, hmb.1 q]
        · rw [hc.2 (fun e => q (hmm.mp (hiff.mp e))), obd_s, if_neg (by decide), hmb.2 q]
      rw [e5]
      have g1 : gM ω r (fun _ => 1) = gM τ r (fun _ => 1) := by funext w; unfold gM; rw [w44, w52]
      have g2 : gM ω r (ω 53) = gM τ r (τ 53) := by funext w; unfold gM; rw [w44, w52, w53]
      rw [g1, g2]
      by_cases q0 : v2 = 0
      · rw [if_pos q0, if_pos q0]
      by_cases q1 : v2 = 1
      · rw [if_neg q0, if_neg q0, if_pos q1, if_pos q1]
      by_cases q2 : v2 = 2
      · rw [if_neg q0, if_neg q0, if_neg q1, if_neg q1, if_pos q2, if_pos q2]
      by_cases q3 : v2 = 3
      · rw [if_neg q0, if_neg q0, if_neg q1, if_neg q1, if_neg q2, if_neg q2, if_pos q3, if_pos q3]
      by_cases q4 : v2 = 4
      · rw [if_neg q0, if_neg q0, if_neg q1, if_neg q1, if_neg q2, if_neg q2, if_neg q3, if_neg q3, if_pos q4, if_pos q4]
      by_cases q5 : v2 = 5
      · rw [if_neg q0, if_neg q0, if_neg q1, if_neg q1, if_neg q2, if_neg q2, if_neg q3, if_neg q3, if_neg q4, if_neg q4, if_pos q5, if_pos q5]
      · rw [if_neg q0, if_neg q0, if_neg q1, if_neg q1, if_neg q2, if_neg q2, if_neg q3, if_neg q3, if_neg q4, if_neg q4, if_neg q5, if_neg q5]
  · refine ⟨(-1), τ, ?_, Sx.rf, fun υ _ hs => ⟨_, ?_, sxT υ⟩⟩
    · unfold f_WP_rule
      show obd (f_WP_isBetween N τ _ 0 (τ 10 3 - 1)) _ = _
      rw [u3, hb, obd_s, if_pos rfl]
    · unfold f_Mo_rule
      have w57 : υ 57 = τ 57 := hs.row 57 (fun _ => rfl)
      rw [mth, ruleAt_n (N := N) (τ := upR υ 42 (upd (υ 42) 0 0)) hN (by show ∀ r, r < 256 → υ 57 r = 0 ∨ υ 57 r = 1; rw [w57]; exact u1) (by show ¬ ∃ a, a < cq (υ 57) 256 ∧ v1 = nI a; rw [w57]; exact hno), obd_s, if_pos rfl]
