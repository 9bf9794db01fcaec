theorem lup {σ : Type} (F : Nat → σ → OR) (I : Nat → σ → Prop) (Q : OR → Prop) (e : Nat) (hx : ∀ n s, I e s → Q (F (n + 1) s)) (hs : ∀ n i s, i < e → I i s → Q (F (n + 1) s) ∨ ∃ s', F (n + 1) s = F n s' ∧ I (i + 1) s') : ∀ n i s, i ≤ e → e - i < n → I i s → Q (F n s) := by
  intro n
  induction n with
  | zero => intro i s _ h _; omega
  | succ n ih =>
    intro i s hi hn h
    rcases Nat.lt_or_ge i e with q | q
    · rcases hs n i s q h with h1 | ⟨s', h1, h2⟩
      · exact h1
      · rw [h1]; exact ih (i + 1) s' (by omega) (by omega) h2
    · have : i = e := by omega
      subst this
      exact hx n s h
theorem li0 : (0 : Int32) = nI 0 := rfl
theorem li1 : (1 : Int32) = nI 1 := rfl
theorem li2 : (2 : Int32) = nI 2 := rfl
theorem li3 : (3 : Int32) = nI 3 := rfl
theorem li4 : (4 : Int32) = nI 4 := rfl
theorem li5 : (5 : Int32) = nI 5 := rfl
theorem li7 : (7 : Int32) = nI 7 := rfl
theorem li8 : (8 : Int32) = nI 8 := rfl
theorem li12 : (12 : Int32) = nI 12 := rfl
theorem li15 : (15 : Int32) = nI 15 := rfl
theorem li31 : (31 : Int32) = nI 31 := rfl
theorem li32 : (32 : Int32) = nI 32 := rfl
theorem li64 : (64 : Int32) = nI 64 := rfl
theorem li99 : (99 : Int32) = nI 99 := rfl
theorem li100 : (100 : Int32) = nI 100 := rfl
theorem li224 : (224 : Int32) = nI 224 := rfl
theorem li256 : (256 : Int32) = nI 256 := rfl
theorem li300 : (300 : Int32) = nI 300 := rfl
theorem li999 : (999 : Int32) = nI 999 := rfl
theorem li9999 : (9999 : Int32) = nI 9999 := rfl
theorem obd_s (r : Int32) (τ : Hp) (f : Int32 → Hp → OR) : obd (some (r, τ)) f = f r τ := rfl
theorem ilet_s {α : Type} (x : α) (f : α → OR) : ilet x f = f x := rfl
theorem ogd_t {b : Bool} (x : OR) (h : b = true) : ogd b x = x := by unfold ogd; rw [if_pos h]
theorem inb_n {i n : Nat} (h : i < n) (hn : n < 2 ^ 31) : inb (nI i) n = true := by
  unfold inb; rw [nI_toInt (by omega)]; exact decide_eq_true ⟨by omega, by omega⟩
theorem isB_0 : isB 0 = true := rfl
theorem isB_1 : isB 1 = true := rfl
theorem nm1_ne {a : Nat} (h : a < 2 ^ 31) : ¬ nI a = (-1) := by
  intro q
  have := congrArg Int32.toInt q
  rw [nI_toInt h, show ((-1 : Int32)).toInt = -1 from rfl] at this
  omega
theorem nm1_ne' {a : Nat} (h : a < 2 ^ 31) : ¬ (-1) = nI a := fun q => nm1_ne h q.symm
theorem upd_at (f : Nat → Int32) (k : Nat) (x : Int32) (j : Nat) : upd f k x j = if j = k then x else f j := rfl
theorem upR_at (τ : Hp) (k : Nat) (r : Nat → Int32) (j : Nat) : upR τ k r j = if j = k then r else τ j := rfl
/-- what may have changed -/
def Sx (c : Nat → Nat → Bool) (τ τ' : Hp) : Prop := ∀ k j, c k j = false → τ' k j = τ k j
theorem Sx.rf {c : Nat → Nat → Bool} {τ : Hp} : Sx c τ τ := fun _ _ _ => rfl
theorem Sx.tr {c : Nat → Nat → Bool} {τ τ1 τ2 : Hp} (h : Sx c τ τ1) (h2 : Sx c τ1 τ2) : Sx c τ τ2 := fun k j q => (h2 k j q).trans (h k j q)
theorem Sx.mono {c d : Nat → Nat → Bool} {τ τ' : Hp} (h : Sx c τ τ') (hc : ∀ k j, d k j = false → c k j = false) : Sx d τ τ' := fun k j q => h k j (hc k j q)
theorem Sx.row {c : Nat → Nat → Bool} {τ τ' : Hp} (h : Sx c τ τ') (k : Nat) (hc : ∀ j, c k j = false) : τ' k = τ k := funext fun j => h k j (hc j)
theorem Sx.u {c : Nat → Nat → Bool} {τ : Hp} {k : Nat} {r : Nat → Int32} (h : ∀ j, c k j = false → r j = τ k j) : Sx c τ (upR τ k r) := by
  intro k' j q
  rw [upR_at]
  by_cases hk : k' = k
  · subst hk; rw [if_pos rfl]; exact h j q
  · rw [if_neg hk]
theorem Sx.ud {c : Nat → Nat → Bool} {τ : Hp} {k i : Nat} {x : Int32} (h : c k i = true) : Sx c τ (upR τ k (upd (τ k) i x)) := Sx.u (fun j q => by
  rw [upd_at]
  by_cases hj : j = i
  · subst hj; rw [h] at q; cases q
  · rw [if_neg hj])
/-- class's and model's scratch -/
def cC (k j : Nat) : Bool := (k == 19 || k == 20 || k == 23 || k == 24 || k == 25 || k == 26 || k == 27 || k == 28 || k == 29 || k == 31 || k == 32 || k == 33 || k == 34 || k == 35 || k == 36 || k == 37) || ((k == 21 && (j == 3 || j == 4)) || (k == 22 && (j == 2 || j == 3 || j == 4)) || (k == 30 && j == 5))
def cM (k j : Nat) : Bool := (k == 50 || k == 51 || k == 54 || k == 55 || k == 56 || k == 58 || k == 59 || k == 60 || k == 61) || (k == 42 && (j == 0 || j == 26 || j == 28 || j == 32))
def cA (k j : Nat) : Bool := cC k j || cM k j
theorem cA_C {τ τ' : Hp} (h : Sx cC τ τ') : Sx cA τ τ' := h.mono (fun k j q => ((Bool.or_eq_false_iff).mp q).1)
theorem cA_M {τ τ' : Hp} (h : Sx cM τ τ') : Sx cA τ τ' := h.mono (fun k j q => ((Bool.or_eq_false_iff).mp q).2)
/-- a way's number among n hosts -/
def WY (n w : Nat) : Prop := w < 256 ∧ w / 32 < n ∧ w / 4 % 8 < n ∧ w / 32 ≠ w / 4 % 8
def isWY (n : Nat) (v1 v2 v3 : Int32) : Prop := ∃ a b d, a < n ∧ b < n ∧ a ≠ b ∧ d < 4 ∧ v1 = nI a ∧ v2 = nI b ∧ v3 = nI d
theorem btw_y {N : Nat} {τ : Hp} {a b c : Nat} (h1 : b ≤ a) (h2 : a ≤ c) (hc : c < 2 ^ 31) : f_WP_isBetween N τ (nI a) (nI b) (nI c) = some (1, τ) := by
  unfold f_WP_isBetween
  rw [if_neg (nI_nlt h1 (by omega)), if_neg (nI_nlt h2 (by omega))]
theorem btw_n {N : Nat} {τ : Hp} {x : Int32} {b c : Nat} (hb : b < 2 ^ 31) (hc : c < 2 ^ 31) (h : ¬ ∃ a, b ≤ a ∧ a ≤ c ∧ x = nI a) : f_WP_isBetween N τ x (nI b) (nI c) = some (0, τ) := by
  unfold f_WP_isBetween
  by_cases h1 : x < nI b
  · rw [if_pos h1]
  · by_cases h2 : nI c < x
    · rw [if_neg h1, if_pos h2]
    · exfalso
      rw [fa_ltI, nI_toInt hb] at h1
      rw [fa_ltI, nI_toInt hc] at h2
      exact h ⟨x.toInt.toNat, by omega, by omega, by rw [fa_eqI, nI_toInt (by omega)]; omega⟩
theorem host_y {N n a : Nat} {τ : Hp} (hn : n ≤ 8) (h : τ 1 3 = nI n) (ha : a < n) : f_Nt_isHost N 1 τ (nI a) = some (1, τ) := by
  unfold f_Nt_isHost
  rw [h, show nI n - 1 = nI (n - 1) from pk_sub (a := n) (b := 1) (by omega), li0, btw_y (by omega) (by omega) (by omega), obd_s, ogd_t _ isB_1]
theorem host_n {N n : Nat} {τ : Hp} {x : Int32} (hn : n ≤ 8) (h : τ 1 3 = nI n) (ha : ¬ ∃ a, a < n ∧ x = nI a) : f_Nt_isHost N 1 τ x = some (0, τ) := by
  unfold f_Nt_isHost
  rcases Nat.eq_zero_or_pos n with h0 | h0
  · subst h0
    rw [h]
    unfold f_WP_isBetween
    by_cases h1 : x < 0
    · rw [if_pos h1, obd_s, ogd_t _ isB_0]
    · rw [if_neg h1, if_pos (by rw [fa_ltI] at h1 ⊢; rw [show (nI 0 - 1 : Int32).toInt = -1 from rfl]; rw [show (0 : Int32).toInt = 0 from rfl] at h1; omega), obd_s, ogd_t _ isB_0]
  · rw [h, show nI n - 1 = nI (n - 1) from pk_sub (a := n) (b := 1) (by omega), show f_WP_isBetween N τ x 0 (nI (n - 1)) = some (0, τ) from btw_n (b := 0) (by omega) (by omega) (fun ⟨a, _, h2, h3⟩ => ha ⟨a, by omega, h3⟩), obd_s, ogd_t _ isB_0]
theorem mhost_y {N n a : Nat} {τ : Hp} (hn : n ≤ 8) (h : τ 42 1 = nI n) (ha : a < n) : f_Mo_isHost N 42 τ (nI a) = some (1, τ) := by
  unfold f_Mo_isHost
  rw [h, if_neg (nI_pos (by omega)), if_neg (nI_ge ha (by omega))]
theorem mhost_n {N n : Nat} {τ : Hp} {x : Int32} (hn : n ≤ 8) (h : τ 42 1 = nI n) (ha : ¬ ∃ a, a < n ∧ x = nI a) : f_Mo_isHost N 42 τ x = some (0, τ) := by
  unfold f_Mo_isHost
  rw [h]
  by_cases h1 : x < 0
  · rw [if_pos h1]
  · rw [if_neg h1]
    obtain ⟨j, hj, rfl⟩ := nI_of h1
    rw [if_pos (nI_le (Nat.le_of_not_lt fun q => ha ⟨j, q, rfl⟩) hj)]
theorem btw_i (N : Nat) (τ : Hp) (x : Int32) (b c : Nat) (hb : b < 2 ^ 31) (hc : c < 2 ^ 31) : (∃ a, b ≤ a ∧ a ≤ c ∧ x = nI a ∧ f_WP_isBetween N τ x (nI b) (nI c) = some (1, τ)) ∨ ((¬ ∃ a, b ≤ a ∧ a ≤ c ∧ x = nI a) ∧ f_WP_isBetween N τ x (nI b) (nI c) = some (0, τ)) := by
  by_cases h : ∃ a, b ≤ a ∧ a ≤ c ∧ x = nI a
  · obtain ⟨a, h1, h2, rfl⟩ := h
    exact Or.inl ⟨a, h1, h2, rfl, btw_y h1 h2 hc⟩
  · exact Or.inr ⟨h, btw_n hb hc h⟩
theorem way_y {N n a b d : Nat} {τ : Hp} (hn : n ≤ 8) (h : τ 1 3 = nI n) (ha : a < n) (hb : b < n) (hab : a ≠ b) (hd : d < 4) : f_Nt_isWay N 1 τ (nI a) (nI b) (nI d) = some (1, τ) := by
  unfold f_Nt_isWay
  rw [host_y hn h ha, obd_s, if_neg (by decide), host_y hn h hb, obd_s, if_neg (by decide), if_neg (fun q => hab ((nI_eq (by omega) (by omega)).mp q)), show f_WP_isBetween N τ (nI d) 0 3 = some (1, τ) from btw_y (b := 0) (c := 3) (by omega) (by omega) (by omega), obd_s, if_neg (by decide)]
theorem way_n {N n : Nat} {τ : Hp} {v1 v2 v3 : Int32} (hn : n ≤ 8) (h : τ 1 3 = nI n) (hw : ¬ isWY n v1 v2 v3) : f_Nt_isWay N 1 τ v1 v2 v3 = some (0, τ) := by
  unfold f_Nt_isWay
  by_cases h1 : ∃ a, a < n ∧ v1 = nI a
  · obtain ⟨a, ha, rfl⟩ := h1
    rw [host_y hn h ha, obd_s, if_neg (by decide)]
    by_cases h2 : ∃ b, b < n ∧ v2 = nI b
    · obtain ⟨b, hb, rfl⟩ := h2
      rw [host_y hn h hb, obd_s, if_neg (by decide)]
      by_cases h3 : nI a = nI b
      · rw [if_pos h3]
      · rw [if_neg h3]
        have h4 : f_WP_isBetween N τ v3 0 3 = some (0, τ) := btw_n (b := 0) (c := 3) (by omega) (by omega) (fun ⟨d, _, q2, q3⟩ => hw ⟨a, b, d, ha, hb, fun q => h3 (by rw [q]), by omega, rfl, rfl, q3⟩)
        rw [h4, obd_s, if_pos rfl]
    · rw [host_n hn h h2, obd_s, if_pos rfl]
  · rw [host_n hn h h1, obd_s, if_pos rfl]
theorem mway_y {N n a b d : Nat} {τ : Hp} (hn : n ≤ 8) (h : τ 42 1 = nI n) (ha : a < n) (hb : b < n) (hab : a ≠ b) (hd : d < 4) : f_Mo_way N 42 τ (nI a) (nI b) (nI d) = some (nI (32 * a + 4 * b + d), τ) := by
  unfold f_Mo_way
  rw [mhost_y hn h ha, obd_s, if_neg (by decide), mhost_y hn h hb, obd_s, if_neg (by decide), if_neg (fun q => hab ((nI_eq (by omega) (by omega)).mp q)), if_neg (nI_pos (by omega)), if_neg (show ¬ (3 : Int32) < nI d from nI_nlt (b := d) (a := 3) (by omega) (by omega)), li32, li4, pk_mul, pk_mul, nI_add, nI_add]
theorem mway_n {N n : Nat} {τ : Hp} {v1 v2 v3 : Int32} (hn : n ≤ 8) (h : τ 42 1 = nI n) (hw : ¬ isWY n v1 v2 v3) : f_Mo_way N 42 τ v1 v2 v3 = some ((-1), τ) := by
  unfold f_Mo_way
  by_cases h1 : ∃ a, a < n ∧ v1 = nI a
  · obtain ⟨a, ha, rfl⟩ := h1
    rw [mhost_y hn h ha, obd_s, if_neg (by decide)]
    by_cases h2 : ∃ b, b < n ∧ v2 = nI b
    · obtain ⟨b, hb, rfl⟩ := h2
      rw [mhost_y hn h hb, obd_s, if_neg (by decide)]
      by_cases h3 : nI a = nI b
      · rw [if_pos h3]
      · rw [if_neg h3]
        by_cases h4 : v3 < 0
        · rw [if_pos h4]
        · rw [if_neg h4]
          obtain ⟨d, hd, rfl⟩ := nI_of h4
          rw [if_pos (show (3 : Int32) < nI d from nI_lt (a := 3) (Nat.lt_of_not_le fun q => hw ⟨a, b, d, ha, hb, fun q => h3 (by rw [q]), by omega, rfl, rfl, rfl⟩) hd)]
    · rw [mhost_n hn h h2, obd_s, if_pos rfl]
  · rw [mhost_n hn h h1, obd_s, if_pos rfl]
theorem wayOf_y {N a b d : Nat} {τ : Hp} : f_WP_wayOf N τ (nI a) (nI b) (nI d) = some (nI (32 * a + 4 * b + d), τ) := by
  unfold f_WP_wayOf f_WP_pairOf
  rw [obd_s, li8, li4, pk_mul, nI_add, pk_mul, nI_add]
  congr 3
  omega
theorem pairOf_y {N a b : Nat} {τ : Hp} : f_WP_pairOf N τ (nI a) (nI b) = some (nI (8 * a + b), τ) := by
  unfold f_WP_pairOf
  rw [li8, pk_mul, nI_add]
  congr 3
  omega
theorem day_y {N d : Nat} {τ : Hp} (h : d ≤ 99) : f_WP_isDay N τ (nI d) = some (1, τ) := by
  unfold f_WP_isDay
  rw [show f_WP_isBetween N τ (nI d) 0 99 = some (1, τ) from btw_y (b := 0) (c := 99) (by omega) (by omega) (by omega), obd_s, ogd_t _ isB_1]
theorem day_n {N : Nat} {τ : Hp} {x : Int32} (h : ¬ ∃ d, d ≤ 99 ∧ x = nI d) : f_WP_isDay N τ x = some (0, τ) := by
  unfold f_WP_isDay
  rw [show f_WP_isBetween N τ x 0 99 = some (0, τ) from btw_n (b := 0) (c := 99) (by omega) (by omega) (fun ⟨d, _, q2, q3⟩ => h ⟨d, q2, q3⟩), obd_s, ogd_t _ isB_0]
theorem mday_y {N d : Nat} {τ : Hp} (h : d ≤ 99) : f_Mo_isDay N τ (nI d) = some (1, τ) := by
  unfold f_Mo_isDay
  rw [if_neg (nI_pos (by omega)), if_neg (show ¬ (99 : Int32) < nI d from nI_nlt (a := 99) h (by omega))]
theorem mday_n {N : Nat} {τ : Hp} {x : Int32} (h : ¬ ∃ d, d ≤ 99 ∧ x = nI d) : f_Mo_isDay N τ x = some (0, τ) := by
  unfold f_Mo_isDay
  by_cases h1 : x < 0
  · rw [if_pos h1]
  · rw [if_neg h1]
    obtain ⟨d, hd, rfl⟩ := nI_of h1
    rw [if_pos (show (99 : Int32) < nI d from nI_lt (a := 99) (Nat.lt_of_not_le fun q => h ⟨d, q, rfl⟩) hd)]
/-- the bits of a door row: m < 16 -/
theorem hb_t : ∀ m, m < 16 → ∀ d, d < 4 → (((nI m >>> (nI d &&& 31)) &&& 1) = 1 ↔ m.testBit d = true) := by decide +kernel
theorem door_y {N m d : Nat} {τ : Hp} (hm : m < 16) (hd : d < 4) : f_WP_hasDoor N τ (nI m) (nI d) = some (if m.testBit d then 1 else 0, τ) := by
  unfold f_WP_hasDoor
  by_cases h : m.testBit d = true
  · rw [if_pos ((hb_t m hm d hd).mpr h), if_pos h]
  · rw [if_neg (fun q => h ((hb_t m hm d hd).mp q)), if_neg h]
theorem rule3 : ∀ r, r < 256 → nI r / 4 / 8 = nI (r / 32) ∧ nI r / 4 - nI r / 4 / 8 * 8 = nI (r / 4 % 8) ∧ nI r - nI r / 4 * 4 = nI (r % 4) ∧ nI r / 32 = nI (r / 32) ∧ nI r / 4 = nI (r / 4) := by decide +kernel
theorem firstOf_y {N r : Nat} {τ : Hp} (h : r < 256) : f_WP_firstOf N τ (nI r) = some (nI (r / 32), τ) := by
  unfold f_WP_firstOf; rw [(rule3 r h).1]
theorem secondOf_y {N r : Nat} {τ : Hp} (h : r < 256) : f_WP_secondOf N τ (nI r) = some (nI (r / 4 % 8), τ) := by
  unfold f_WP_secondOf; rw [(rule3 r h).2.1]
theorem doorOf_y {N r : Nat} {τ : Hp} (h : r < 256) : f_WP_doorOf N τ (nI r) = some (nI (r % 4), τ) := by
  unfold f_WP_doorOf; rw [(rule3 r h).2.2.1]
