theorem seekR_y {N n rp sp : Nat} {τ : Hp} {D B : Nat → Int32} (hN : 100000 ≤ N) (hn0 : 0 < n) (hn : n ≤ 8) (h1 : τ 1 3 = nI n) (h2 : τ 5 2 = 0 ∨ τ 5 2 = 1) (h3 : τ 5 3 = nI rp) (h4 : τ 5 4 = nI sp) (hrp : rp ≤ 99) (hsp : sp ≤ 99) (hQ : RB (τ 19) D) (hB : RB (τ 4) B) (hD : ∀ w, w < 256 → D w = 1 → WY n w ∧ ¬ B w = 1) : ∃ υ f, f_Sk_seekRooms N 21 1 5 18 τ = some (0, υ) ∧ Sx cSk τ υ ∧ ISB (τ 2) (τ 5 2 = 1) D B rp sp n f ∧ ∀ j, j < 8 → υ 26 j = fr n f j := by
  obtain ⟨M0, eM⟩ : ∃ x : Nat, x = 52147 := ⟨_, rfl⟩
  obtain ⟨L0, eL⟩ : ∃ x, x = cnt (ob (fun w => D w = 1)) 256 * rp := ⟨_, rfl⟩
  have hT : cnt (ob (fun w => D w = 1)) 256 ≤ 256 := cn_le _ 256
  have hL0 : L0 ≤ 60000 := by
    rw [eL]; exact Nat.le_trans (Nat.mul_le_mul hT hrp) (by decide)
  obtain ⟨al1, al2, al3⟩ := alone (mk := τ 2) (S := τ 5 2 = 1) (D := D) (B := B) (rp := rp) (sp := sp) hn hD
  unfold f_Sk_seekRooms
  rw [total_y (by omega) hQ, obd_s]
  unfold f_La_costOf
  rw [h3, h4, li0, pk_mul, pk_mul, nI_add, Nat.zero_mul, Nat.add_zero, ← eL, obd_s, nI_1, ilet_s]
  obtain ⟨τ5, e5⟩ : ∃ x : Hp, x = upR τ 21 (upd (τ 21) 4 (nI (L0 + 1))) := ⟨_, rfl⟩
  rw [← e5]
  obtain ⟨ρ1, f1, f2⟩ := fill_y (N := N) (q0 := 23) (L := 8) (τ := τ5) (v := (-1)) (by omega) rfl (by omega)
  obtain ⟨ρ2, f3, f4⟩ := fill_y (N := N) (q0 := 26) (L := 8) (τ := upR τ5 23 ρ1) (v := (-1)) (by omega) rfl (by omega)
  rw [show f_Jf_fill N (21 + 2) τ5 (-1) = _ from f1, obd_s, show f_Jf_fill N (21 + 5) (upR τ5 23 ρ1) (-1) = _ from f3, obd_s, ilet_s]
  refine lwh (fun n' (s : Hp × Int32 × Int32 × Nat) => f_Sk_seekRooms_L47 N 21 1 5 18 n' s.1 s.2.1 s.2.2.1) (SKI τ D B rp sp n L0) (fun s => s.2.2.2) (fun z => ∃ υ f, z = some (0, υ) ∧ Sx cSk τ υ ∧ ISB (τ 2) (τ 5 2 = 1) D B rp sp n f ∧ ∀ j, j < 8 → υ 26 j = fr n f j) ?_ N (upR (upR (upR τ5 23 ρ1) 26 ρ2) 25 (upd ((upR (upR τ5 23 ρ1) 26 ρ2) 25) 0 0), nI 0, nI 0, M0) (show M0 < N by omega) ?_
  · rintro n' ⟨υ, v4, v5, M⟩ ⟨sx, st, L, g1, g2, g3, g4⟩
    dsimp only at sx g1 g2 g3 g4 ⊢
    subst g1
    rcases g4 with ⟨g4, g5⟩ | ⟨h, c, u, g4, k1, k2, k3, k4, k5, k6, k7, k8⟩
    · subst g4
      obtain ⟨f, m1, m2, m3⟩ := g5.end (fun _ _ => trivial) al1 al2 (by omega)
      refine Or.inl ⟨υ, f, ?_, sx, m1, m3⟩
      show f_Sk_seekRooms_L47b N 21 1 5 18 _ υ (-1) (nI st) = _
      unfold f_Sk_seekRooms_L47b
      rw [if_neg (show ¬ (1000000 : Int32) ≤ nI st from nI_ge (b := 1000000) (by omega) (by omega)), if_pos (by decide)]
    · subst g4; subst k7
      obtain ⟨υ', v, M', q1, q2, q3⟩ := seek_step (K := f_Sk_seekRooms_L47 N 21 1 5 18 n') (by omega : 1000 ≤ N) hn h1 h2 h3 h4 hrp hsp hL0 hQ hB sx g2 g3 k1 k2 k3 k4 k5 k6 k8
      exact Or.inr ⟨(υ', v, nI (st + 1), M'), q1, q2, q3⟩
  · have e23 : ∀ j, j < 8 → ρ1 j = (-1) := f2
    refine ⟨?_, 0, L0 + 1, rfl, (show 0 + M0 ≤ 52147 by omega), ?_, Or.inr ⟨0, 0, fun _ => 0, rfl, hn0, by omega, fun j hj => absurd hj (Nat.not_lt_zero j), fun _ ⟨i, j, a, b, c, d, e⟩ => d (fr_out (Nat.zero_le i)), fun j hj => ?_, fun j hj => ?_, (show M0 = mu 0 0 (fun _ => 0) from eM.trans (mu_0 _).symm), Or.inl ⟨rfl, fun t _ e _ => ?_⟩⟩⟩
    · show Sx cSk τ (upR (upR (upR τ5 23 ρ1) 26 ρ2) 25 (upd ((upR (upR τ5 23 ρ1) 26 ρ2) 25) 0 0))
      rw [e5]
      exact (((Sx.ud (k := 21) (i := 4) rfl).tr (Sx.u (k := 23) (fun j q => by cases q))).tr (Sx.u (k := 26) (fun j q => by cases q))).tr (Sx.u (k := 25) (fun j q => by cases q))
    · show τ5 21 4 = _
      rw [e5]; rfl
    · show ρ1 j = _
      rw [e23 j hj, if_neg (Nat.not_lt_zero j)]
      by_cases q : j = 0
      · rw [if_pos q]; rfl
      · rw [if_neg q]
    · have : j = 0 := by omega
      subst this; rfl
    · rcases e with ⟨j, a, _⟩ | ⟨_, a⟩
      · exact absurd a (Nat.not_lt_zero _)
      · exact absurd a (Nat.not_lt_zero _)
