def cCc (k j : Nat) : Bool := k == 44 || k == 52 || k == 53 || k == 56 || k == 57 || (k == 42 && (j == 19 || j == 20 || j == 21 || j == 26))
/-- the rooms that are taken come in -/
theorem cc_y {N n rp sp : Nat} {τ : Hp} {D B ρ : Nat → Int32} (v : Int32) (hN : 1000 ≤ N) (hn : n ≤ 8) (h1 : τ 42 1 = nI n) (h13 : τ 42 13 = nI rp) (h14 : τ 42 14 = nI sp) (hρ : ∀ j, j < 8 → τ 54 j = ρ j) (hv : RV ρ) (hz : ∀ j, n ≤ j → j < 8 → ρ j = (-1)) (hD : ∀ w, w < 256 → τ 50 w = D w ∧ (D w = 0 ∨ D w = 1)) (hB : ∀ w, w < 256 → τ 49 w = B w ∧ (B w = 0 ∨ B w = 1)) (hb : ¬ BRD ρ D B) : ∃ ω, (obd (f_Mo_costs N 42 τ) fun r1 τ2 => obd (f_Mo_comes N 42 τ2 r1) fun _ τ4 => some (v, τ4)) = some (v, ω) ∧ Sx cCc τ ω ∧ ω 42 19 = 1 ∧ ω 42 20 = nI (csO rp sp ρ D) ∧ ω 42 21 = nI (nST ρ D) ∧ (∀ j, j < 8 → ω 44 j = ρ j) ∧ (∀ w, w < 256 → ω 52 w = D w ∧ ω 53 w = τ 51 w) ∧ R01 (ω 57) (RUL ρ D) := by
  obtain ⟨υ, c1, c2, c3⟩ := costs_y (N := N) (n := n) (rp := rp) (sp := sp) (τ := τ) (D := D) (B := B) hN hn h1 h13 h14 (fun j hj => by rw [hρ j hj]; exact hv j hj) (fun j h hj => by rw [hρ j hj]; exact hz j h hj) hD hB
  rw [BRD.cg hρ (fun _ _ => rfl) (fun _ _ => rfl), csO_cg hρ (fun _ _ => rfl), nST_cg hρ (fun _ _ => rfl)] at c3
  obtain ⟨_, c4, c5⟩ := c3.resolve_left (fun e => hb e.1)
  have c2' : R01 (υ 56) (RUL ρ D) := c2.cg (fun r _ => RUL.cg hρ (fun _ _ => rfl))
  obtain ⟨ω, d1, d2, d3, d4, d5, d6, d7⟩ := comes_y (N := N) (τ := υ) (v1 := nI (csO rp sp ρ D)) hN (fun w hw => by rw [c1 50 w rfl, (hD w hw).1]; exact (hD w hw).2) (fun w hw => by
    by_cases q : RUL ρ D w
    · exact Or.inr ((c2' w hw).1 q)
    · exact Or.inl ((c2' w hw).2 q))
  refine ⟨ω, ?_, ?_, d3, d4, d5.trans c5, fun j hj => ?_, fun w hw => ⟨?_, ?_⟩, fun r hr => ?_⟩
  · rw [c4, obd_s, d1, obd_s]
  · have m1 : Sx cCc τ υ := c1.mono (fun k j q => by
      unfold cCc at q
      unfold cCo
      simp only [Bool.or_eq_false_iff, Bool.and_eq_false_iff, beq_eq_false_iff_ne] at q ⊢
      omega)
    exact m1.tr (d2.mono (fun k j q => by
      unfold cCc at q
      unfold cCm
      simp only [Bool.or_eq_false_iff, Bool.and_eq_false_iff, beq_eq_false_iff_ne] at q ⊢
      omega))
  · rw [d6 j hj, c1 54 j rfl]; exact hρ j hj
  · rw [(d7 w hw).1, c1 50 w rfl]; exact (hD w hw).1
  · rw [(d7 w hw).2.1, c1 51 w rfl]
  · rw [(d7 r hr).2.2]; exact c2' r hr
def cPl (k j : Nat) : Bool := k == 54 || k == 55 || k == 56 || (k == 42 && j == 26)
def cdL (L : Nat) : Int32 := if L ≤ 50688 then nI L else (-1)
def MPI (τ : Hp) (D B : Nat → Int32) (rp sp n W : Nat) (s : Hp × Int32 × Int32 × Nat) : Prop := Sx cPl τ s.1 ∧ ∃ L, s.2.1 = cdL L ∧
  ((s.2.2.1 = 0 ∧ BST (τ 43) (τ 42 12 = 1) D B rp sp n 60000 (fun _ => True) L (s.1 55)) ∨
   (s.2.2.1 = 1 ∧ ∃ u, RGS n u ∧ (∀ j, j < 8 → s.1 54 j = fr n u j) ∧ s.2.2.2 + vl u n = W ∧ BST (τ 43) (τ 42 12 = 1) D B rp sp n 60000 (fun t => LX n t u) L (s.1 55)))
section MP
variable {N n rp sp : Nat} {τ υ : Hp} {D B : Nat → Int32} {u : Nat → Nat}
theorem vl_W {n : Nat} {u : Nat → Nat} (hn : n ≤ 8) (hu : RGS n u) : vl u n < 16777216 := Nat.lt_of_lt_of_le (vl_lt n (fun j hj => hu.lt hn hj)) (Nat.le_trans (Nat.pow_le_pow_right (n := 8) (by omega) hn) (by decide))
theorem mp_go {L M W : Nat} {v2 : Int32} {K : Hp → Int32 → Int32 → OR} (hN : 1000 ≤ N) (hn0 : 0 < n) (hn : n ≤ 8) (h1 : τ 42 1 = nI n) (hM : 0 < M) (hWb : 16777216 < W) (sx : Sx cPl τ υ) (hu : RGS n u) (h54 : ∀ j, j < 8 → υ 54 j = fr n u j) (hW : M + vl u n = W) (hv : v2 = cdL L) (hb : BST (τ 43) (τ 42 12 = 1) D B rp sp n 60000 (fun t => LX n t u ∨ ∀ j, j < n → t j = u j) L (υ 55)) : ∃ υ' r M', (obd (f_Mo_goesOn N 42 υ) fun r1 τ2 => K τ2 v2 r1) = K υ' v2 r ∧ MPI τ D B rp sp n W (υ', v2, r, M') ∧ M' < M := by
  obtain ⟨r, υ', g1, g2, g3⟩ := goes_y (N := N) (n := n) (τ := υ) (u := u) hN hn0 hn (by rw [sx 42 1 rfl]; exact h1) hu h54
  have s2 : Sx cPl τ υ' := sx.tr (g2.mono (fun k j q => by
    unfold cPl at q
    simp only [Bool.or_eq_false_iff, Bool.and_eq_false_iff, beq_eq_false_iff_ne] at q ⊢
    omega))
  rw [g1, obd_s]
  rcases g3 with ⟨rfl, u', k1, k2, k3, k4⟩ | ⟨rfl, k1⟩
  · refine ⟨υ', 1, W - vl u' n, rfl, ⟨s2, L, hv, Or.inr ⟨rfl, u', k1, k3, ?_, ?_⟩⟩, by omega⟩
    · show W - vl u' n + vl u' n = W
      have := vl_W hn k1
      omega
    · exact hb.ext (fun j _ => g2 55 j rfl) (fun t ht e => (k4 t ht).mpr e) (fun t ht e _ => Or.inl ((k4 t ht).mp e))
  · refine ⟨υ', 0, 0, rfl, ⟨s2, L, hv, Or.inl ⟨rfl, ?_⟩⟩, hM⟩
    exact hb.ext (fun j _ => g2 55 j rfl) (fun _ _ _ => trivial) (fun t ht _ _ => Or.inl (k1 t ht))
theorem mp_cp {w0 : Int32} {K : Hp → Int32 → Int32 → OR} (hN : 1000 ≤ N) : ∃ ρ : Nat → Int32, f_Mo_plan_L114 N 42 K N υ w0 0 = (obd (f_Mo_goesOn N 42 (upR υ 55 ρ)) fun r1 τ2 => K τ2 w0 r1) ∧ ∀ j, j < 8 → ρ j = υ 54 j := by
  refine (lup (fun n' (s : (Nat → Int32) × Int32) => f_Mo_plan_L114 N 42 K n' (upR υ 55 s.1) w0 s.2) (fun i s => (∀ j, j < i → s.1 j = υ 54 j) ∧ s.2 = nI i) (fun z => ∃ ρ : Nat → Int32, z = (obd (f_Mo_goesOn N 42 (upR υ 55 ρ)) fun r1 τ2 => K τ2 w0 r1) ∧ ∀ j, j < 8 → ρ j = υ 54 j) 8 ?_ ?_ N 0 (υ 55, 0) (Nat.zero_le _) (by omega) ⟨fun j hj => absurd hj (Nat.not_lt_zero j), rfl⟩ |> fun h => by rw [upR_id] at h; exact h)
  · rintro n' ⟨ρ, s2⟩ ⟨g1, g2⟩
    dsimp only at g1 g2 ⊢
    subst g2
    refine ⟨ρ, ?_, g1⟩
    show f_Mo_plan_L114b N 42 _ _ _ _ _ = _
    unfold f_Mo_plan_L114b
    rw [if_pos (show (8 : Int32) ≤ nI 8 from by decide)]
  · rintro n' i ⟨ρ, s2⟩ hi ⟨g1, g2⟩
    dsimp only at g1 g2 ⊢
    subst g2
    refine Or.inr ⟨(upd ρ i (υ 54 i), nI (i + 1)), ?_, fun j hj => ?_, rfl⟩
    · show f_Mo_plan_L114b N 42 _ _ _ _ _ = _
      unfold f_Mo_plan_L114b
      rw [if_neg (show ¬ (8 : Int32) ≤ nI i from nI_ge (b := 8) hi (by omega)), ogd_t _ (inb_n hi (by omega)), ogd_t _ (inb_n hi (by omega)), ilet_s, ilet_s, nI_1, nI_clamp (n := i) (by omega), show (upR υ 55 ρ) (42 + 13) = ρ from upR_eq υ 55 ρ, upR_2]
      rfl
    · show upd ρ i (υ 54 i) j = _
      rw [upd_at]
      by_cases q : j = i
      · rw [if_pos q, q]
      · rw [if_neg q]; exact g1 j (by omega)
theorem mp_back {v2 : Int32} (hN : 1000 ≤ N) : ∃ ρ : Nat → Int32, f_Mo_plan_L152 N 42 N υ v2 0 = (obd (f_Mo_costs N 42 (upR υ 54 ρ)) fun r1 τ2 => obd (f_Mo_comes N 42 τ2 r1) fun _ τ4 => some (v2, τ4)) ∧ ∀ j, j < 8 → ρ j = υ 55 j := by
  refine (lup (fun n' (s : (Nat → Int32) × Int32) => f_Mo_plan_L152 N 42 n' (upR υ 54 s.1) v2 s.2) (fun i s => (∀ j, j < i → s.1 j = υ 55 j) ∧ s.2 = nI i) (fun z => ∃ ρ : Nat → Int32, z = (obd (f_Mo_costs N 42 (upR υ 54 ρ)) fun r1 τ2 => obd (f_Mo_comes N 42 τ2 r1) fun _ τ4 => some (v2, τ4)) ∧ ∀ j, j < 8 → ρ j = υ 55 j) 8 ?_ ?_ N 0 (υ 54, 0) (Nat.zero_le _) (by omega) ⟨fun j hj => absurd hj (Nat.not_lt_zero j), rfl⟩ |> fun h => by rw [upR_id] at h; exact h)
  · rintro n' ⟨ρ, s2⟩ ⟨g1, g2⟩
    dsimp only at g1 g2 ⊢
    subst g2
    refine ⟨ρ, ?_, g1⟩
    show f_Mo_plan_L152b N 42 _ _ _ _ = _
    unfold f_Mo_plan_L152b
    rw [if_pos (show (8 : Int32) ≤ nI 8 from by decide)]
  · rintro n' i ⟨ρ, s2⟩ hi ⟨g1, g2⟩
    dsimp only at g1 g2 ⊢
    subst g2
    refine Or.inr ⟨(upd ρ i (υ 55 i), nI (i + 1)), ?_, fun j hj => ?_, rfl⟩
    · show f_Mo_plan_L152b N 42 _ _ _ _ = _
      unfold f_Mo_plan_L152b
      rw [if_neg (show ¬ (8 : Int32) ≤ nI i from nI_ge (b := 8) hi (by omega)), ogd_t _ (inb_n hi (by omega)), ogd_t _ (inb_n hi (by omega)), ilet_s, ilet_s, nI_1, nI_clamp (n := i) (by omega), show (upR υ 54 ρ) (42 + 12) = ρ from upR_eq υ 54 ρ, upR_2]
      rfl
    · show upd ρ i (υ 55 i) j = _
      rw [upd_at]
      by_cases q : j = i
      · rw [if_pos q, q]
      · rw [if_neg q]; exact g1 j (by omega)
/-- one try of the model -/
theorem mp_try {v2 : Int32} {K : Hp → Int32 → Int32 → OR} (hN : 1000 ≤ N) (hn : n ≤ 8) (h1 : τ 42 1 = nI n) (h12 : τ 42 12 = 0 ∨ τ 42 12 = 1) (h13 : τ 42 13 = nI rp) (h14 : τ 42 14 = nI sp) (hD : ∀ w, w < 256 → τ 50 w = D w ∧ (D w = 0 ∨ D w = 1)) (hB : ∀ w, w < 256 → τ 49 w = B w ∧ (B w = 0 ∨ B w = 1)) (sx : Sx cPl τ υ) (hu : RGS n u) (h54 : ∀ j, j < 8 → υ 54 j = fr n u j) : ∃ υ1 w0, f_Mo_plan_L63b N 42 K υ v2 1 = f_Mo_plan_J89 N 42 K υ1 v2 w0 ∧ Sx cCo υ υ1 ∧ ((¬ FE (τ 43) (τ 42 12 = 1) D B (fr n u) ∧ w0 = (-1)) ∨ (FE (τ 43) (τ 42 12 = 1) D B (fr n u) ∧ w0 = nI (csO rp sp (fr n u) D))) := by
  have r12 : υ 42 12 = τ 42 12 := sx 42 12 rfl
  obtain ⟨υ1, c1, _, c3⟩ := costs_y (N := N) (n := n) (rp := rp) (sp := sp) (τ := υ) (D := D) (B := B) hN hn (by rw [sx 42 1 rfl]; exact h1) (by rw [sx 42 13 rfl]; exact h13) (by rw [sx 42 14 rfl]; exact h14) (fun j hj => by rw [h54 j hj]; exact fr_RV hu hn j hj) (fun j h hj => by rw [h54 j hj]; exact fr_out h) (fun w hw => by rw [sx 50 w rfl]; exact hD w hw) (fun w hw => by rw [sx 49 w rfl]; exact hB w hw)
  rw [BRD.cg h54 (fun _ _ => rfl) (fun _ _ => rfl), csO_cg h54 (fun _ _ => rfl)] at c3
  have key : (τ 42 12 = 1 → ¬ MX (τ 43) (fr n u)) → ∃ υ1 w0, f_Mo_plan_J85 N 42 K υ v2 = f_Mo_plan_J89 N 42 K υ1 v2 w0 ∧ Sx cCo υ υ1 ∧ ((¬ FE (τ 43) (τ 42 12 = 1) D B (fr n u) ∧ w0 = (-1)) ∨ (FE (τ 43) (τ 42 12 = 1) D B (fr n u) ∧ w0 = nI (csO rp sp (fr n u) D))) := fun hm => by
    unfold f_Mo_plan_J85
    rcases c3 with ⟨e, f⟩ | ⟨e, f, _⟩
    · exact ⟨υ1, -1, by rw [f, obd_s], c1, Or.inl ⟨fun q => q.2 e, rfl⟩⟩
    · exact ⟨υ1, _, by rw [f, obd_s], c1, Or.inr ⟨⟨hm, e⟩, rfl⟩⟩
  unfold f_Mo_plan_L63b
  rw [if_neg (by decide), r12]
  rcases h12 with e | e
  · rw [if_pos e]
    exact key (fun q => absurd (e.symm.trans q) (by decide))
  · rw [if_neg (by rw [e]; decide)]
    have r43 : υ 43 = τ 43 := sx.row 43 (fun _ => rfl)
    have mx := mixes_y (N := N) (n := n) (τ := υ) (u := u) hN hn (by rw [sx 42 1 rfl]; exact h1) hu h54
    rw [r43] at mx
    rcases mx with ⟨q, f⟩ | ⟨q, f⟩
    · rw [f, obd_s, if_neg (by decide)]
      exact ⟨υ, -1, rfl, Sx.rf, Or.inl ⟨fun g => g.1 e q, rfl⟩⟩
    · rw [f, obd_s, if_pos rfl]
      exact key (fun _ => q)
theorem LX.ag {s t f : Nat → Nat} (h : LX n f s) (e : ∀ j, j < n → t j = s j) : LX n f t := by
  obtain ⟨j, a, b, c⟩ := h
  exact ⟨j, a, fun i hi => by rw [e i (by omega)]; exact b i hi, by rw [e j a]; exact c⟩
theorem mp_step {L M W : Nat} {K : Hp → Int32 → Int32 → OR} (hN : 1000 ≤ N) (hn0 : 0 < n) (hn : n ≤ 8) (h1 : τ 42 1 = nI n) (h12 : τ 42 12 = 0 ∨ τ 42 12 = 1) (h13 : τ 42 13 = nI rp) (h14 : τ 42 14 = nI sp) (hrp : rp ≤ 99) (hsp : sp ≤ 99) (hD : ∀ w, w < 256 → τ 50 w = D w ∧ (D w = 0 ∨ D w = 1)) (hB : ∀ w, w < 256 → τ 49 w = B w ∧ (B w = 0 ∨ B w = 1)) (sx : Sx cPl τ υ) (hu : RGS n u) (h54 : ∀ j, j < 8 → υ 54 j = fr n u j) (hM : 0 < M) (hWb : 16777216 < W) (hW : M + vl u n = W) (hb : BST (τ 43) (τ 42 12 = 1) D B rp sp n 60000 (fun t => LX n t u) L (υ 55)) : ∃ υ' v r M', f_Mo_plan_L63b N 42 K υ (cdL L) 1 = K υ' v r ∧ MPI τ D B rp sp n W (υ', v, r, M') ∧ M' < M := by
  obtain ⟨υ1, w0, t1, t2, t3⟩ := mp_try (N := N) (n := n) (rp := rp) (sp := sp) (τ := τ) (υ := υ) (D := D) (B := B) (u := u) (v2 := cdL L) (K := K) hN hn h1 h12 h13 h14 hD hB sx hu h54
  have s1 : Sx cPl τ υ1 := sx.tr (t2.mono (fun k j q => by
    unfold cPl at q
    unfold cCo
    simp only [Bool.or_eq_false_iff, Bool.and_eq_false_iff, beq_eq_false_iff_ne] at q ⊢
    omega))
  have r54 : ∀ j, j < 8 → υ1 54 j = fr n u j := fun j hj => by rw [t2 54 j rfl]; exact h54 j hj
  have cs := csO_le (ρ := fr n u) (D := D) hrp hsp
  rw [t1]
  unfold f_Mo_plan_J89
  have keep : FE (τ 43) (τ 42 12 = 1) D B (fr n u) → csO rp sp (fr n u) D < L → ∃ υ' v r M', f_Mo_plan_L114 N 42 K N υ1 (nI (csO rp sp (fr n u) D)) 0 = K υ' v r ∧ MPI τ D B rp sp n W (υ', v, r, M') ∧ M' < M := fun hf hl => by
    obtain ⟨ρ, p1, p2⟩ := mp_cp (N := N) (υ := υ1) (w0 := nI (csO rp sp (fr n u) D)) (K := K) hN
    obtain ⟨υ', r, M', g⟩ := mp_go (N := N) (n := n) (rp := rp) (sp := sp) (τ := τ) (υ := upR υ1 55 ρ) (D := D) (B := B) (u := u) (L := csO rp sp (fr n u) D) (M := M) (W := W) (v2 := nI (csO rp sp (fr n u) D)) (K := K) hN hn0 hn h1 hM hWb (s1.tr (Sx.u (fun j q => by cases q))) hu r54 hW (by unfold cdL; rw [if_pos cs]) (hb.keep hu (Or.inr (fun _ _ => rfl)) hf hl (fun j hj => by rw [upR_eq, p2 j hj]; exact r54 j hj) (fun t _ e => e))
    rw [p1]
    exact ⟨υ', _, r, M', g⟩
  rcases t3 with ⟨f, rfl⟩ | ⟨f, rfl⟩
  · rw [if_pos rfl]
    obtain ⟨υ', r, M', g⟩ := mp_go (N := N) (n := n) (rp := rp) (sp := sp) (τ := τ) (υ := υ1) (D := D) (B := B) (u := u) (L := L) (M := M) (W := W) (v2 := cdL L) (K := K) hN hn0 hn h1 hM hWb s1 hu r54 hW rfl (hb.ext (fun j _ => t2 55 j rfl) (fun t _ e => Or.inl e) (fun t _ e g => e.imp id (fun e => absurd (by rw [← fr_cg e]; exact g) f)))
    exact ⟨υ', _, r, M', g⟩
  · rw [if_neg (nm1_ne (by omega))]
    by_cases hL : L ≤ 50688
    · rw [show cdL L = nI L from if_pos hL, if_neg (nm1_ne (by omega))]
      by_cases q : L ≤ csO rp sp (fr n u) D
      · rw [if_pos (nI_le q (by omega))]
        obtain ⟨υ', r, M', g⟩ := mp_go (N := N) (n := n) (rp := rp) (sp := sp) (τ := τ) (υ := υ1) (D := D) (B := B) (u := u) (L := L) (M := M) (W := W) (v2 := nI L) (K := K) hN hn0 hn h1 hM hWb s1 hu r54 hW (if_pos hL).symm (hb.ext (fun j _ => t2 55 j rfl) (fun t _ e => Or.inl e) (fun t _ e _ => e.imp id (fun e => ⟨by rw [fr_cg e]; exact q, fun f g => g.ag e⟩)))
        exact ⟨υ', _, r, M', g⟩
      · rw [if_neg (nI_ge (by omega) (by omega))]
        exact keep f (by omega)
    · rw [show cdL L = (-1) from if_neg hL, if_pos rfl]
      exact keep f (by omega)
theorem mp_0 (hN : 1000 ≤ N) (h1 : τ 42 1 = nI n) (hn : n ≤ 8) : ∃ ρ : Nat → Int32, f_Mo_plan_L28 N 42 N τ 0 = f_Mo_plan_L63 N 42 N (upR τ 54 ρ) (-1) 1 ∧ ∀ j, j < 8 → ρ j = fr n (fun _ => 0) j := by
  refine (lup (fun n' (s : (Nat → Int32) × Int32) => f_Mo_plan_L28 N 42 n' (upR τ 54 s.1) s.2) (fun i s => (∀ j, j < i → s.1 j = fr n (fun _ => 0) j) ∧ s.2 = nI i) (fun z => ∃ ρ : Nat → Int32, z = f_Mo_plan_L63 N 42 N (upR τ 54 ρ) (-1) 1 ∧ ∀ j, j < 8 → ρ j = fr n (fun _ => 0) j) 8 ?_ ?_ N 0 (τ 54, 0) (Nat.zero_le _) (by omega) ⟨fun j hj => absurd hj (Nat.not_lt_zero j), rfl⟩ |> fun h => by rw [upR_id] at h; exact h)
  · rintro n' ⟨ρ, s2⟩ ⟨g1, g2⟩
    dsimp only at g1 g2 ⊢
    subst g2
    refine ⟨ρ, ?_, g1⟩
    show f_Mo_plan_L28b N 42 _ _ _ = _
    unfold f_Mo_plan_L28b
    rw [if_pos (show (8 : Int32) ≤ nI 8 from by decide)]
  · rintro n' i ⟨ρ, s2⟩ hi ⟨g1, g2⟩
    dsimp only at g1 g2 ⊢
    subst g2
    refine Or.inr ⟨(upd ρ i (fr n (fun _ => 0) i), nI (i + 1)), ?_, fun j hj => ?_, rfl⟩
    · show f_Mo_plan_L28b N 42 _ _ _ = _
      unfold f_Mo_plan_L28b
      rw [if_neg (show ¬ (8 : Int32) ≤ nI i from nI_ge (b := 8) hi (by omega)), show (upR τ 54 ρ) 42 1 = nI n from h1]
      by_cases q : n ≤ i
      · rw [if_pos (nI_le q (by omega)), ogd_t _ (inb_n hi (by omega)), ilet_s, ilet_s, nI_1, nI_clamp (n := i) (by omega), show (upR τ 54 ρ) (42 + 12) = ρ from upR_eq τ 54 ρ, upR_2, fr_out q]
      · rw [if_neg (nI_ge (by omega) (by omega)), ogd_t _ (inb_n hi (by omega)), ilet_s, ilet_s, nI_1, nI_clamp (n := i) (by omega), show (upR τ 54 ρ) (42 + 12) = ρ from upR_eq τ 54 ρ, upR_2, fr_in (by omega)]
        rfl
    · show upd ρ i (fr n (fun _ => 0) i) j = _
      rw [upd_at]
      by_cases q : j = i
      · rw [if_pos q, q]
      · rw [if_neg q]; exact g1 j (by omega)
def cPm (k j : Nat) : Bool := k == 44 || k == 52 || k == 53 || k == 54 || k == 55 || k == 56 || k == 57 || (k == 42 && (j == 19 || j == 20 || j == 21 || j == 26))
theorem planM_y (hN : 20000000 ≤ N) (hn0 : 0 < n) (hn : n ≤ 8) (h1 : τ 42 1 = nI n) (h12 : τ 42 12 = 0 ∨ τ 42 12 = 1) (h13 : τ 42 13 = nI rp) (h14 : τ 42 14 = nI sp) (hrp : rp ≤ 99) (hsp : sp ≤ 99) (hD : ∀ w, w < 256 → τ 50 w = D w ∧ (D w = 0 ∨ D w = 1)) (hB : ∀ w, w < 256 → τ 49 w = B w ∧ (B w = 0 ∨ B w = 1)) (hDB : ∀ w, w < 256 → D w = 1 → WY n w ∧ ¬ B w = 1) : ∃ f ω, ISB (τ 43) (τ 42 12 = 1) D B rp sp n f ∧ f_Mo_plan_L28 N 42 N τ 0 = some (nI (csO rp sp (fr n f) D), ω) ∧ Sx cPm τ ω ∧ ω 42 19 = 1 ∧ ω 42 20 = nI (csO rp sp (fr n f) D) ∧ ω 42 21 = nI (nST (fr n f) D) ∧ (∀ j, j < 8 → ω 44 j = fr n f j) ∧ (∀ w, w < 256 → ω 52 w = D w ∧ ω 53 w = τ 51 w) ∧ R01 (ω 57) (RUL (fr n f) D) := by
  obtain ⟨al1, al2, al3⟩ := alone (mk := τ 43) (S := τ 42 12 = 1) (D := D) (B := B) (rp := rp) (sp := sp) hn hDB
  have al4 := csO_le (ρ := fr n (fun j => j)) (D := D) hrp hsp
  obtain ⟨ρ0, z1, z2⟩ := mp_0 (N := N) (n := n) (τ := τ) (by omega) h1 hn
  obtain ⟨W, eW⟩ : ∃ W : Nat, W = 16777217 := ⟨_, rfl⟩
  rw [z1]
  have rz : RGS n (fun _ => 0) := fun _ _ => Nat.zero_le _
  have vz := vl_W hn rz
  refine lwh (fun n' (s : Hp × Int32 × Int32 × Nat) => f_Mo_plan_L63 N 42 n' s.1 s.2.1 s.2.2.1) (MPI τ D B rp sp n W) (fun s => s.2.2.2) (fun z => ∃ f ω, ISB (τ 43) (τ 42 12 = 1) D B rp sp n f ∧ z = some (nI (csO rp sp (fr n f) D), ω) ∧ Sx cPm τ ω ∧ ω 42 19 = 1 ∧ ω 42 20 = nI (csO rp sp (fr n f) D) ∧ ω 42 21 = nI (nST (fr n f) D) ∧ (∀ j, j < 8 → ω 44 j = fr n f j) ∧ (∀ w, w < 256 → ω 52 w = D w ∧ ω 53 w = τ 51 w) ∧ R01 (ω 57) (RUL (fr n f) D)) ?_ N (upR τ 54 ρ0, -1, 1, W - vl (fun _ => 0) n) (show W - vl (fun _ => 0) n < N by omega) ?_
  · rintro n' ⟨υ, v2, v3, M⟩ ⟨sx, L, g1, g2⟩
    dsimp only at sx g1 g2 ⊢
    subst g1
    rcases g2 with ⟨rfl, hb⟩ | ⟨rfl, u, k1, k2, k3, hb⟩
    · obtain ⟨f, m1, m2, m3⟩ := hb.end (fun _ _ => trivial) al1 al2 (by omega)
      have cs := csO_le (ρ := fr n f) (D := D) hrp hsp
      obtain ⟨ρ, b1, b2⟩ := mp_back (N := N) (υ := υ) (v2 := cdL L) (by omega)
      have s1 : Sx cPl τ (upR υ 54 ρ) := sx.tr (Sx.u (fun j q => by cases q))
      obtain ⟨ω, c1, c2, c3⟩ := cc_y (N := N) (n := n) (rp := rp) (sp := sp) (τ := upR υ 54 ρ) (D := D) (B := B) (ρ := fr n f) (cdL L) (by omega) hn (by rw [s1 42 1 rfl]; exact h1) (by rw [s1 42 13 rfl]; exact h13) (by rw [s1 42 14 rfl]; exact h14) (fun j hj => by rw [upR_eq, b2 j hj]; exact m3 j hj) (fr_RV m1.1 hn) (fun j h _ => fr_out h) (fun w hw => by rw [s1 50 w rfl]; exact hD w hw) (fun w hw => by rw [s1 49 w rfl]; exact hB w hw) m1.2.1.2
      refine Or.inl ⟨f, ω, m1, ?_, ?_, c3.1, c3.2.1, c3.2.2.1, c3.2.2.2.1, fun w hw => ⟨(c3.2.2.2.2.1 w hw).1, (c3.2.2.2.2.1 w hw).2.trans (s1 51 w rfl)⟩, c3.2.2.2.2.2⟩
      · show f_Mo_plan_L63b N 42 _ υ (cdL L) 0 = _
        unfold f_Mo_plan_L63b
        rw [if_pos rfl, b1, c1, m2]
        unfold cdL
        rw [if_pos cs]
      · have m4 : Sx cPm τ (upR υ 54 ρ) := s1.mono (fun k j q => by
          unfold cPm at q
          unfold cPl
          simp only [Bool.or_eq_false_iff, Bool.and_eq_false_iff, beq_eq_false_iff_ne] at q ⊢
          omega)
        exact m4.tr (c2.mono (fun k j q => by
          unfold cPm at q
          unfold cCc
          simp only [Bool.or_eq_false_iff, Bool.and_eq_false_iff, beq_eq_false_iff_ne] at q ⊢
          omega))
    · have := vl_W hn k1
      obtain ⟨υ', v, r, M', q1, q2, q3⟩ := mp_step (K := f_Mo_plan_L63 N 42 n') (by omega : 1000 ≤ N) hn0 hn h1 h12 h13 h14 hrp hsp hD hB sx k1 k2 (by omega) (by omega) k3 hb
      exact Or.inr ⟨(υ', v, r, M'), q1, q2, q3⟩
  · refine ⟨Sx.u (fun j q => by cases q), 60001, (show (-1 : Int32) = cdL 60001 from (if_neg (by decide)).symm), Or.inr ⟨rfl, fun _ => 0, rz, fun j hj => ?_, (show W - vl (fun _ => 0) n + vl (fun _ => 0) n = W by omega), Or.inl ⟨rfl, fun t _ e _ => ?_⟩⟩⟩
    · show upR τ 54 ρ0 54 j = _
      rw [upR_eq]; exact z2 j hj
    · obtain ⟨j, _, _, e⟩ := e
      exact absurd e (Nat.not_lt_zero _)
end MP
