theorem lwh {σ : Type} (F : Nat → σ → OR) (I : σ → Prop) (μ : σ → Nat) (Q : OR → Prop) (hs : ∀ n s, I s → Q (F (n + 1) s) ∨ ∃ s', F (n + 1) s = F n s' ∧ I s' ∧ μ s' < μ s) : ∀ n s, μ s < n → I s → Q (F n s) := by
  intro n
  induction n with
  | zero => intro s h _; omega
  | succ n ih =>
    intro s hn h
    rcases hs n s h with h1 | ⟨s', h1, h2, h3⟩
    · exact h1
    · rw [h1]; exact ih s' (by omega) h2
def Rch (P : Nat → Prop) (x y : Nat) : Prop := ∀ S : Nat → Prop, S x → (∀ r, r < 256 → P r → S (r / 32) → S (r / 4 % 8)) → S y
theorem Rch.rf {P : Nat → Prop} (x : Nat) : Rch P x x := fun _ h _ => h
theorem Rch.st {P : Nat → Prop} {x r : Nat} (h : Rch P x (r / 32)) (hr : r < 256) (hp : P r) : Rch P x (r / 4 % 8) := fun S h1 h2 => h2 r hr hp (h S h1 h2)
theorem Rch.tr {P : Nat → Prop} {x y z : Nat} (h : Rch P x y) (h' : Rch P y z) : Rch P x z := fun S h1 h2 => h' S (h S h1 h2) h2
def chM (R : Nat) (M : Nat → Nat) : Nat → Nat → Nat
  | 0 => M
  | k + 1 => fun x => if x < R ∧ (chM R M k x).testBit k = true then chM R M k x ||| chM R M k k else chM R M k x
theorem ch_bit {R : Nat} {M : Nat → Nat} {k x y : Nat} : (chM R M (k + 1) x).testBit y = true ↔ (chM R M k x).testBit y = true ∨ (x < R ∧ (chM R M k x).testBit k = true ∧ (chM R M k k).testBit y = true) := by
  show (if x < R ∧ (chM R M k x).testBit k = true then chM R M k x ||| chM R M k k else chM R M k x).testBit y = true ↔ _
  by_cases h : x < R ∧ (chM R M k x).testBit k = true
  · rw [if_pos h, Nat.testBit_or, Bool.or_eq_true]
    exact ⟨fun q => q.elim Or.inl (fun q => Or.inr ⟨h.1, h.2, q⟩), fun q => q.elim Or.inl (fun q => Or.inr q.2.2)⟩
  · rw [if_neg h]
    exact ⟨Or.inl, fun q => q.elim id (fun q => absurd ⟨q.1, q.2.1⟩ h)⟩
theorem ch_lt {R : Nat} {M : Nat → Nat} (h : ∀ x, x < 8 → M x < 256) (hR : R ≤ 8) : ∀ k, k ≤ R → ∀ x, x < 8 → chM R M k x < 256
  | 0, _ => h
  | k + 1, hk => fun x hx => by
    have h1 := ch_lt h hR k (by omega) x hx
    have h2 := ch_lt h hR k (by omega) k (by omega)
    show (if x < R ∧ (chM R M k x).testBit k = true then chM R M k x ||| chM R M k k else chM R M k x) < 256
    by_cases q : x < R ∧ (chM R M k x).testBit k = true
    · rw [if_pos q]; exact Nat.or_lt_two_pow (n := 8) h1 h2
    · rw [if_neg q]; exact h1
theorem ch_up {R : Nat} {M : Nat → Nat} {x y : Nat} (h : (M x).testBit y = true) : ∀ k, (chM R M k x).testBit y = true
  | 0 => h
  | k + 1 => ch_bit.mpr (Or.inl (ch_up h k))
theorem ch_so {R : Nat} {M : Nat → Nat} {Q : Nat → Nat → Prop} (h : ∀ x y, x < R → (M x).testBit y = true → Q x y) (htr : ∀ x y z, Q x y → Q y z → Q x z) : ∀ k, k ≤ R → ∀ x y, x < R → (chM R M k x).testBit y = true → Q x y
  | 0, _ => h
  | k + 1, hk => fun x y hx q => by
    rcases ch_bit.mp q with q | ⟨-, q1, q2⟩
    · exact ch_so h htr k (by omega) x y hx q
    · exact htr x k y (ch_so h htr k (by omega) x k hx q1) (ch_so h htr k (by omega) k y (by omega) q2)
theorem ch_tr {R : Nat} {M : Nat → Nat} : ∀ k, k ≤ R → ∀ b, b < k → ∀ x y, x < R → (chM R M k x).testBit b = true → (chM R M k b).testBit y = true → (chM R M k x).testBit y = true
  | 0, _ => fun b hb => absurd hb (Nat.not_lt_zero b)
  | k + 1, hk => fun b hb x y hx h1 h2 => by
    have ih := ch_tr (R := R) (M := M) k (by omega)
    rcases Nat.lt_or_ge b k with q | q
    · rcases ch_bit.mp h1 with a1 | ⟨-, a1, a2⟩
      · rcases ch_bit.mp h2 with c1 | ⟨-, c1, c2⟩
        · exact ch_bit.mpr (Or.inl (ih b q x y hx a1 c1))
        · exact ch_bit.mpr (Or.inr ⟨hx, ih b q x k hx a1 c1, c2⟩)
      · rcases ch_bit.mp h2 with c1 | ⟨-, c1, c2⟩
        · exact ch_bit.mpr (Or.inr ⟨hx, a1, ih b q k y (by omega) a2 c1⟩)
        · exact ch_bit.mpr (Or.inr ⟨hx, a1, c2⟩)
    · have hbk : b = k := by omega
      subst hbk
      have a1 : (chM R M b x).testBit b = true := by
        rcases ch_bit.mp h1 with a1 | ⟨-, a1, -⟩
        · exact a1
        · exact a1
      have c1 : (chM R M b b).testBit y = true := by
        rcases ch_bit.mp h2 with c1 | ⟨-, -, c1⟩
        · exact c1
        · exact c1
      exact ch_bit.mpr (Or.inr ⟨hx, a1, c1⟩)
theorem ch_end {R : Nat} {M : Nat → Nat} {P : Nat → Prop} (hM : ∀ x y, x < R → ((M x).testBit y = true ↔ (y = x ∨ ∃ r, r < 256 ∧ P r ∧ r / 32 = x ∧ r / 4 % 8 = y))) (hP : ∀ r, r < 256 → P r → r / 32 < R ∧ r / 4 % 8 < R) {x y : Nat} (hx : x < R) : (chM R M R x).testBit y = true ↔ Rch P x y := by
  constructor
  · refine ch_so (Q := Rch P) (fun x y hx q => ?_) (fun _ _ _ => Rch.tr) R (Nat.le_refl _) x y hx
    rcases (hM x y hx).mp q with rfl | ⟨r, hr, hp, rfl, rfl⟩
    · exact Rch.rf y
    · exact Rch.st (Rch.rf _) hr hp
  · intro h
    refine h (fun y => (chM R M R x).testBit y = true) (ch_up ((hM x x hx).mpr (Or.inl rfl)) R) (fun r hr hp h1 => ?_)
    exact ch_tr R (Nat.le_refl _) (r / 32) (hP r hr hp).1 x (r / 4 % 8) hx h1 (ch_up ((hM _ _ (hP r hr hp).1).mpr (Or.inr ⟨r, hr, hp, rfl, rfl⟩)) R)
theorem bt8 : ∀ m, m < 256 → ∀ y, y < 8 → (((nI m >>> (nI y &&& 31)) &&& 1) = 1 ↔ m.testBit y = true) := by decide +kernel
theorem or8 : ∀ m, m < 256 → ∀ y, y < 8 → (nI m ||| (1 <<< (nI y &&& 31))) = nI (m ||| 2 ^ y) := by decide +kernel
theorem sh8 : ∀ y, y < 8 → ((1 : Int32) <<< (nI y &&& 31)) = nI (2 ^ y) := by decide +kernel
theorem or_nI {a b : Nat} (ha : a < 256) (hb : b < 256) : nI a ||| nI b = nI (a ||| b) := by
  apply Int32.toBitVec_inj.mp
  show BitVec.ofNat 32 a ||| BitVec.ofNat 32 b = BitVec.ofNat 32 (a ||| b)
  exact (BitVec.ofNat_or).symm
theorem upR_2 (τ : Hp) (k : Nat) (r r' : Nat → Int32) : upR (upR τ k r) k r' = upR τ k r' := by
  funext j; rw [upR_at, upR_at, upR_at]
  by_cases h : j = k
  · rw [if_pos h, if_pos h]
  · rw [if_neg h, if_neg h, if_neg h]
theorem upR_id (τ : Hp) (k : Nat) : upR τ k (τ k) = τ := by
  funext j; rw [upR_at]
  by_cases h : j = k
  · rw [if_pos h, h]
  · rw [if_neg h]
/-- hosts whose room is among the mask's -/
def hcb (ro : Nat → Int32) (m j : Nat) : Bool := !(ro j == (-1)) && m.testBit (ro j).toNatClampNeg
def hcm (ro : Nat → Int32) (m k : Nat) : Nat := cnt (hcb ro m) k
def szs (ro : Nat → Int32) (k a : Nat) : Nat := cnt (fun j => ro j == nI a) k
def ss (m : Nat) (sz : Nat → Nat) : Nat → Nat
  | 0 => 0
  | a + 1 => ss m sz a + if m.testBit a then sz a else 0
theorem ss_add (m : Nat) (f g : Nat → Nat) : ∀ R, ss m (fun a => f a + g a) R = ss m f R + ss m g R
  | 0 => rfl
  | R + 1 => by
    rw [ss, ss, ss, ss_add m f g R]
    by_cases h : m.testBit R = true
    · rw [if_pos h, if_pos h, if_pos h]; omega
    · rw [if_neg h, if_neg h, if_neg h]; omega
theorem ss_z (m : Nat) {f : Nat → Nat} : ∀ R, (∀ a, a < R → f a = 0) → ss m f R = 0
  | 0, _ => rfl
  | R + 1, h => by
    rw [ss, ss_z m R (fun a ha => h a (by omega)), h R (by omega)]
    by_cases q : m.testBit R = true
    · rw [if_pos q]
    · rw [if_neg q]
theorem ss_1 (m : Nat) {f : Nat → Nat} {b : Nat} : ∀ R, b < R → (∀ a, a < R → f a = if a = b then 1 else 0) → ss m f R = if m.testBit b then 1 else 0
  | R + 1, hb, h => by
    rw [ss]
    rcases Nat.lt_or_ge b R with q | q
    · rw [ss_1 m R q (fun a ha => h a (by omega)), h R (by omega), if_neg (by omega : ¬ R = b)]
      by_cases q2 : m.testBit R = true
      · rw [if_pos q2]; omega
      · rw [if_neg q2]; omega
    · have : b = R := by omega
      subst this
      rw [ss_z m b (fun a ha => by rw [h a (by omega), if_neg (by omega)]), h b (by omega), if_pos rfl]; omega
theorem ss_hc {ro : Nat → Int32} {m R : Nat} (hR : R ≤ 8) : ∀ k, (∀ j, j < k → ro j = (-1) ∨ ∃ b, b < R ∧ ro j = nI b) → ss m (szs ro k) R = hcm ro m k
  | 0, _ => ss_z m R (fun _ _ => rfl)
  | k + 1, h => by
    have e : szs ro (k + 1) = fun a => szs ro k a + (if ro k = nI a then 1 else 0) := by
      funext a
      show cnt _ (k + 1) = _
      rw [cnt]
      congr 1
      by_cases q : ro k = nI a
      · rw [if_pos q, if_pos (by rw [q]; exact beq_self_eq_true _)]
      · rw [if_neg q, if_neg (fun e => q (eq_of_beq e))]
    rw [e, ss_add, ss_hc hR k (fun j hj => h j (by omega)), hcm, hcm, cnt]
    congr 1
    rcases h k (by omega) with q | ⟨b, hb, q⟩
    · rw [ss_z m R (fun a ha => by rw [q, if_neg (nm1_ne' (by omega))]), if_neg]
      unfold hcb; rw [q, show ((-1 : Int32) == (-1)) = true from rfl]; exact Bool.false_ne_true
    · rw [ss_1 m (b := b) R hb (fun a ha => by
        rw [q]
        by_cases q2 : a = b
        · rw [if_pos q2, if_pos (by rw [q2])]
        · rw [if_neg q2, if_neg (fun e => q2 ((nI_eq (by omega) (by omega)).mp e).symm)])]
      unfold hcb
      rw [q, nI_clamp (by omega), show (nI b == (-1)) = false from by
        rw [beq_eq_false_iff_ne]; exact nm1_ne (by omega)]
      rfl
