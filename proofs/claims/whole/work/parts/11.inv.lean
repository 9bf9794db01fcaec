def ID (n t : Nat) (w d c w' d' c' : Nat → Int32) : Prop := ∀ j, j < t → ∃ x y z, WY n x ∧ y ≤ 99 ∧ 1 ≤ z ∧ z ≤ 999 ∧ w j = nI x ∧ w' j = nI x ∧ d j = nI y ∧ d' j = nI y ∧ c j = nI z ∧ c' j = nI z
def RB (r q : Nat → Int32) : Prop := ∀ p, p < 64 → ∃ m, m < 16 ∧ r p = nI m ∧ ∀ d, d < 4 → q (4 * p + d) = if m.testBit d then 1 else 0
def IB (n : Nat) (mu ba : Nat → Int32) : Prop := ∀ w, w < 256 → (mu w = 1 → WY n w ∧ ba w = 0) ∧ (ba w = 1 → WY n w)
def IR (n R : Nat) (r r' : Nat → Int32) : Prop := R ≤ 8 ∧ (∀ j, j < 8 → r' j = r j ∧ (r j = (-1) ∨ (j < n ∧ ∃ a, a < R ∧ r j = nI a))) ∧ ∀ a, a < R → ∃ j, j < n ∧ r j = nI a
def cnt (p : Nat → Bool) : Nat → Nat
  | 0 => 0
  | n + 1 => cnt p n + if p n then 1 else 0
def cq (q : Nat → Int32) (k : Nat) : Nat := cnt (fun r => q r == 1) k
def IU (mk R : Nat) (dr q ra : Nat → Int32) (ru : Int32) : Prop := (∀ r, r < 256 → q r = 0 ∨ q r = 1) ∧ (∀ r, r < 256 → q r = 1 → r / 32 < R ∧ r / 4 % 8 < R ∧ r / 32 ≠ r / 4 % 8) ∧ ru = nI (cq q 256) ∧ cq q 256 ≤ 224 ∧ (∀ r, r < 256 → q r = 1 → ra (cq q r) = nI r) ∧ (mk = 1 → ∀ p, p < 64 → ∃ m, m < 16 ∧ dr p = nI m ∧ (p % 9 = 0 → m = 15) ∧ (p % 9 ≠ 0 → ∀ d, d < 4 → (m.testBit d = true ↔ q (4 * p + d) = 1)))
def IWt (a b : Nat → Int32) : Prop := ∀ w, w < 256 → ∃ x, x ≤ 299700 ∧ a w = nI x ∧ b w = nI x
def IWy (q du ro : Nat → Int32) : Prop := ∀ r, r < 256 → q r = 1 → ∃ w, w < 256 ∧ du w = 1 ∧ ro (w / 32) = nI (r / 32) ∧ ro (w / 4 % 8) = nI (r / 4 % 8) ∧ w % 4 = r % 4
def IvH (τ : Hp) (n : Nat) : Prop := n ≤ 8 ∧ τ 1 3 = nI n ∧ τ 42 1 = nI n ∧ ∀ j, j < 8 → τ 2 j = τ 43 j
def IvT (τ : Hp) (n t : Nat) : Prop := t ≤ 300 ∧ τ 6 3 = nI t ∧ τ 42 4 = nI t ∧ ID n t (τ 7) (τ 8) (τ 9) (τ 45) (τ 46) (τ 47)
def IvB (τ : Hp) (n : Nat) : Prop := RB (τ 3) (τ 48) ∧ RB (τ 4) (τ 49) ∧ IB n (τ 48) (τ 49)
def IvL (τ : Hp) (wi le rp sp : Nat) : Prop := 1 ≤ wi ∧ wi ≤ 100 ∧ 1 ≤ le ∧ le ≤ 9999 ∧ rp ≤ 99 ∧ sp ≤ 99 ∧ τ 5 0 = nI wi ∧ τ 42 10 = nI wi ∧ τ 5 1 = nI le ∧ τ 42 11 = nI le ∧ (τ 5 2 = 0 ∨ τ 5 2 = 1) ∧ τ 42 12 = τ 5 2 ∧ τ 5 3 = nI rp ∧ τ 42 13 = nI rp ∧ τ 5 4 = nI sp ∧ τ 42 14 = nI sp
def IvP (τ : Hp) (n mk R : Nat) : Prop := (mk = 0 ∨ mk = 1) ∧ (mk = 0 → R = 0) ∧ (mk = 1 → 1 ≤ R) ∧ τ 10 5 = nI mk ∧ τ 42 19 = nI mk ∧ IR n R (τ 12) (τ 44) ∧ IU mk R (τ 13) (τ 57) (τ 17) (τ 10 3) ∧ RB (τ 15) (τ 52) ∧ IWt (τ 16) (τ 53) ∧ IWy (τ 57) (τ 52) (τ 12) ∧ τ 42 21 = τ 11 3 ∧ τ 42 20 = τ 10 4
def IvS (τ : Hp) : Prop := ∃ c, c ≤ 12 ∧ τ 30 7 = nI c ∧ τ 42 34 = nI c ∧ ∀ j, j < c → τ 38 j = τ 62 j
def IvO (τ : Hp) (t : Nat) : Prop := ∃ o, o ≤ 300 ∧ τ 39 2 = nI o ∧ τ 42 38 = nI o ∧ ∀ j, j < o → ∃ k, k < t ∧ τ 40 j = nI k ∧ τ 63 j = τ 7 k ∧ τ 64 j = τ 9 k ∧ τ 41 j = τ 65 j
def Inv (τ : Hp) : Prop := ∃ n t wi le rp sp mk R, IvH τ n ∧ IvT τ n t ∧ IvB τ n ∧ IvL τ wi le rp sp ∧ IvP τ n mk R ∧ IvS τ ∧ IvO τ t
section CG
variable {c : Nat → Nat → Bool} {τ τ' : Hp} {n t wi le rp sp mk R : Nat}
theorem IvH.cg (h : Sx c τ τ') (hc : ∀ j, c 1 3 = false ∧ c 42 1 = false ∧ c 2 j = false ∧ c 43 j = false) (H : IvH τ n) : IvH τ' n := by
  obtain ⟨h1, h2, h3, h4⟩ := H
  refine ⟨h1, by rw [h 1 3 (hc 0).1]; exact h2, by rw [h 42 1 (hc 0).2.1]; exact h3, fun j hj => ?_⟩
  rw [h 2 j (hc j).2.2.1, h 43 j (hc j).2.2.2]; exact h4 j hj
theorem IvT.cg (h : Sx c τ τ') (hc : ∀ j, c 6 3 = false ∧ c 42 4 = false ∧ c 7 j = false ∧ c 8 j = false ∧ c 9 j = false ∧ c 45 j = false ∧ c 46 j = false ∧ c 47 j = false) (H : IvT τ n t) : IvT τ' n t := by
  obtain ⟨h1, h2, h3, h4⟩ := H
  refine ⟨h1, by rw [h 6 3 (hc 0).1]; exact h2, by rw [h 42 4 (hc 0).2.1]; exact h3, ?_⟩
  rw [h.row 7 (fun j => (hc j).2.2.1), h.row 8 (fun j => (hc j).2.2.2.1), h.row 9 (fun j => (hc j).2.2.2.2.1), h.row 45 (fun j => (hc j).2.2.2.2.2.1), h.row 46 (fun j => (hc j).2.2.2.2.2.2.1), h.row 47 (fun j => (hc j).2.2.2.2.2.2.2)]
  exact h4
theorem IvB.cg (h : Sx c τ τ') (hc : ∀ j, c 3 j = false ∧ c 48 j = false ∧ c 4 j = false ∧ c 49 j = false) (H : IvB τ n) : IvB τ' n := by
  unfold IvB
  rw [h.row 3 (fun j => (hc j).1), h.row 48 (fun j => (hc j).2.1), h.row 4 (fun j => (hc j).2.2.1), h.row 49 (fun j => (hc j).2.2.2)]
  exact H
theorem IvL.cg (h : Sx c τ τ') (hc : c 5 0 = false ∧ c 5 1 = false ∧ c 5 2 = false ∧ c 5 3 = false ∧ c 5 4 = false ∧ c 42 10 = false ∧ c 42 11 = false ∧ c 42 12 = false ∧ c 42 13 = false ∧ c 42 14 = false) (H : IvL τ wi le rp sp) : IvL τ' wi le rp sp := by
  unfold IvL
  obtain ⟨a0, a1, a2, a3, a4, a5, a6, a7, a8, a9⟩ := hc
  rw [h 5 0 a0, h 5 1 a1, h 5 2 a2, h 5 3 a3, h 5 4 a4, h 42 10 a5, h 42 11 a6, h 42 12 a7, h 42 13 a8, h 42 14 a9]
  exact H
theorem IvP.cg (h : Sx c τ τ') (hc : ∀ j, c 10 j = false ∧ c 11 3 = false ∧ c 12 j = false ∧ c 13 j = false ∧ c 15 j = false ∧ c 16 j = false ∧ c 17 j = false ∧ c 44 j = false ∧ c 52 j = false ∧ c 53 j = false ∧ c 57 j = false ∧ c 42 19 = false ∧ c 42 20 = false ∧ c 42 21 = false) (H : IvP τ n mk R) : IvP τ' n mk R := by
  unfold IvP
  rw [h.row 10 (fun j => (hc j).1), h 11 3 (hc 0).2.1, h.row 12 (fun j => (hc j).2.2.1), h.row 13 (fun j => (hc j).2.2.2.1), h.row 15 (fun j => (hc j).2.2.2.2.1), h.row 16 (fun j => (hc j).2.2.2.2.2.1), h.row 17 (fun j => (hc j).2.2.2.2.2.2.1), h.row 44 (fun j => (hc j).2.2.2.2.2.2.2.1), h.row 52 (fun j => (hc j).2.2.2.2.2.2.2.2.1), h.row 53 (fun j => (hc j).2.2.2.2.2.2.2.2.2.1), h.row 57 (fun j => (hc j).2.2.2.2.2.2.2.2.2.2.1), h 42 19 (hc 0).2.2.2.2.2.2.2.2.2.2.2.1, h 42 20 (hc 0).2.2.2.2.2.2.2.2.2.2.2.2.1, h 42 21 (hc 0).2.2.2.2.2.2.2.2.2.2.2.2.2]
  exact H
theorem IvS.cg (h : Sx c τ τ') (hc : ∀ j, c 30 7 = false ∧ c 42 34 = false ∧ c 38 j = false ∧ c 62 j = false) (H : IvS τ) : IvS τ' := by
  unfold IvS
  rw [h 30 7 (hc 0).1, h 42 34 (hc 0).2.1, h.row 38 (fun j => (hc j).2.2.1), h.row 62 (fun j => (hc j).2.2.2)]
  exact H
theorem IvO.cg (h : Sx c τ τ') (hc : ∀ j, c 39 2 = false ∧ c 42 38 = false ∧ c 40 j = false ∧ c 41 j = false ∧ c 63 j = false ∧ c 64 j = false ∧ c 65 j = false ∧ c 7 j = false ∧ c 9 j = false) (H : IvO τ t) : IvO τ' t := by
  unfold IvO
  rw [h 39 2 (hc 0).1, h 42 38 (hc 0).2.1, h.row 40 (fun j => (hc j).2.2.1), h.row 41 (fun j => (hc j).2.2.2.1), h.row 63 (fun j => (hc j).2.2.2.2.1), h.row 64 (fun j => (hc j).2.2.2.2.2.1), h.row 65 (fun j => (hc j).2.2.2.2.2.2.1), h.row 7 (fun j => (hc j).2.2.2.2.2.2.2.1), h.row 9 (fun j => (hc j).2.2.2.2.2.2.2.2)]
  exact H
end CG
theorem Inv.sc {τ τ' : Hp} (h : Sx cA τ τ') (H : Inv τ) : Inv τ' := by
  obtain ⟨n, t, wi, le, rp, sp, mk, R, h1, h2, h3, h4, h5, h6, h7⟩ := H
  exact ⟨n, t, wi, le, rp, sp, mk, R, h1.cg h (fun _ => ⟨rfl, rfl, rfl, rfl⟩), h2.cg h (fun _ => ⟨rfl, rfl, rfl, rfl, rfl, rfl, rfl, rfl⟩), h3.cg h (fun _ => ⟨rfl, rfl, rfl, rfl⟩), h4.cg h ⟨rfl, rfl, rfl, rfl, rfl, rfl, rfl, rfl, rfl, rfl⟩, h5.cg h (fun _ => ⟨rfl, rfl, rfl, rfl, rfl, rfl, rfl, rfl, rfl, rfl, rfl, rfl, rfl, rfl⟩), h6.cg h (fun _ => ⟨rfl, rfl, rfl, rfl⟩), h7.cg h (fun _ => ⟨rfl, rfl, rfl, rfl, rfl, rfl, rfl, rfl, rfl⟩)⟩
/-- a pair of calls that only reads: the class, then the model -/
theorem ok_read {f g : Hp → OR} (hf : ∀ τ, Inv τ → ∃ r τ', f τ = some (r, τ') ∧ Sx cC τ τ' ∧ ∀ υ, Inv υ → Sx cC τ υ → ∃ υ', g υ = some (r, υ') ∧ Sx cM υ υ') : agree Inv f g := by
  intro τ hI
  obtain ⟨r, τ', h1, h2, h3⟩ := hf τ hI
  obtain ⟨υ', h4, h5⟩ := h3 τ' (hI.sc (cA_C h2)) h2
  exact ⟨r, τ', υ', h1, h4, (hI.sc (cA_C h2)).sc (cA_M h5)⟩
theorem cnt_0 (p : Nat → Bool) : cnt p 0 = 0 := rfl
theorem cnt_no {p : Nat → Bool} (h : ∀ k, p k = false) : ∀ n, cnt p n = 0
  | 0 => rfl
  | n + 1 => by rw [cnt, cnt_no h n, h n]; rfl
theorem inv_start (g0 g1 g2 : Nat → Int32) (h0 : ∀ j, j < 8 → g0 j = (-1)) (h1 : ∀ j, j < 8 → g1 j = (-1)) (h2 : ∀ j, j < 8 → g2 j = (-1)) : Inv (s0 g0 g1 g2) := by
  have hz : cq (fun _ => (0 : Int32)) 256 = 0 := cnt_no (fun _ => rfl) 256
  refine ⟨0, 0, 7, 1, 5, 1, 0, 0, ⟨by omega, rfl, rfl, fun _ _ => rfl⟩, ⟨by omega, rfl, rfl, fun j hj => absurd hj (Nat.not_lt_zero j)⟩, ⟨fun p _ => ⟨0, by omega, rfl, fun d _ => by rw [Nat.zero_testBit]; rfl⟩, fun p _ => ⟨0, by omega, rfl, fun d _ => by rw [Nat.zero_testBit]; rfl⟩, fun w _ => ⟨fun h => absurd (show (0 : Int32) = 1 from h) (by decide), fun h => absurd (show (0 : Int32) = 1 from h) (by decide)⟩⟩, ⟨by omega, by omega, by omega, by omega, by omega, by omega, rfl, rfl, rfl, rfl, Or.inl rfl, rfl, rfl, rfl, rfl, rfl⟩, ⟨Or.inl rfl, fun _ => rfl, fun h => absurd h (by decide), rfl, rfl, ⟨by omega, fun j hj => ⟨(h2 j hj).trans (h0 j hj).symm, Or.inl (h0 j hj)⟩, fun a ha => absurd ha (Nat.not_lt_zero a)⟩, ⟨fun _ _ => Or.inl rfl, fun _ _ h => absurd (show (0 : Int32) = 1 from h) (by decide), by rw [show (s0 g0 g1 g2 57) = (fun _ => 0) from rfl, hz]; rfl, by rw [show (s0 g0 g1 g2 57) = (fun _ => 0) from rfl, hz]; omega, fun _ _ h => absurd (show (0 : Int32) = 1 from h) (by decide), fun h => absurd h (by decide)⟩, fun p _ => ⟨0, by omega, rfl, fun d _ => by rw [Nat.zero_testBit]; rfl⟩, fun w _ => ⟨0, by omega, rfl, rfl⟩, fun _ _ h => absurd (show (0 : Int32) = 1 from h) (by decide), rfl, rfl⟩, ⟨0, by omega, rfl, rfl, fun j hj => absurd hj (Nat.not_lt_zero j)⟩, ⟨0, by omega, rfl, rfl, fun j hj => absurd hj (Nat.not_lt_zero j)⟩⟩
